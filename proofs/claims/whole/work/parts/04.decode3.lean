theorem dX12_claim_63 : decode cX12_claim 63 = .ok (.if_icmp .ne 18, 3) := by decide +kernel
theorem dX12_claim_66 : decode cX12_claim 66 = .ok (.aload_n 0, 1) := by decide +kernel
theorem dX12_claim_67 : decode cX12_claim 67 = .ok (.getfield 92, 3) := by decide +kernel
theorem dX12_claim_70 : decode cX12_claim 70 = .ok (.iload 4, 2) := by decide +kernel
theorem dX12_claim_72 : decode cX12_claim 72 = .ok (.iaload, 1) := by decide +kernel
theorem dX12_claim_73 : decode cX12_claim 73 = .ok (.iload_n 2, 1) := by decide +kernel
theorem dX12_claim_74 : decode cX12_claim 74 = .ok (.if_icmp .ne 7, 3) := by decide +kernel
theorem dX12_claim_77 : decode cX12_claim 77 = .ok (.iconst 1, 1) := by decide +kernel
theorem dX12_claim_78 : decode cX12_claim 78 = .ok (.goto 4, 3) := by decide +kernel
theorem dX12_claim_81 : decode cX12_claim 81 = .ok (.iconst 0, 1) := by decide +kernel
theorem dX12_claim_82 : decode cX12_claim 82 = .ok (.istore_n 3, 1) := by decide +kernel
theorem dX12_claim_83 : decode cX12_claim 83 = .ok (.iinc 4 1, 3) := by decide +kernel
theorem dX12_claim_86 : decode cX12_claim 86 = .ok (.goto (-44), 3) := by decide +kernel
theorem dX12_claim_89 : decode cX12_claim 89 = .ok (.iload_n 3, 1) := by decide +kernel
theorem dX12_claim_90 : decode cX12_claim 90 = .ok (.ifCond .eq 5, 3) := by decide +kernel
theorem dX12_claim_93 : decode cX12_claim 93 = .ok (.iconst 0, 1) := by decide +kernel
theorem dX12_claim_94 : decode cX12_claim 94 = .ok (.ireturn, 1) := by decide +kernel
theorem dX12_claim_95 : decode cX12_claim 95 = .ok (.aload_n 0, 1) := by decide +kernel
theorem dX12_claim_96 : decode cX12_claim 96 = .ok (.getfield 89, 3) := by decide +kernel
theorem dX12_claim_99 : decode cX12_claim 99 = .ok (.aload_n 0, 1) := by decide +kernel
theorem dX12_claim_100 : decode cX12_claim 100 = .ok (.getfield 273, 3) := by decide +kernel
theorem dX12_claim_103 : decode cX12_claim 103 = .ok (.iload_n 1, 1) := by decide +kernel
theorem dX12_claim_104 : decode cX12_claim 104 = .ok (.iastore, 1) := by decide +kernel
theorem dX12_claim_105 : decode cX12_claim 105 = .ok (.aload_n 0, 1) := by decide +kernel
theorem dX12_claim_106 : decode cX12_claim 106 = .ok (.getfield 92, 3) := by decide +kernel
theorem dX12_claim_109 : decode cX12_claim 109 = .ok (.aload_n 0, 1) := by decide +kernel
theorem dX12_claim_110 : decode cX12_claim 110 = .ok (.getfield 273, 3) := by decide +kernel
theorem dX12_claim_113 : decode cX12_claim 113 = .ok (.iload_n 2, 1) := by decide +kernel
theorem dX12_claim_114 : decode cX12_claim 114 = .ok (.iastore, 1) := by decide +kernel
theorem dX12_claim_115 : decode cX12_claim 115 = .ok (.aload_n 0, 1) := by decide +kernel
theorem dX12_claim_116 : decode cX12_claim 116 = .ok (.getfield 95, 3) := by decide +kernel
theorem dX12_claim_119 : decode cX12_claim 119 = .ok (.aload_n 0, 1) := by decide +kernel
theorem dX12_claim_120 : decode cX12_claim 120 = .ok (.getfield 273, 3) := by decide +kernel
theorem dX12_claim_123 : decode cX12_claim 123 = .ok (.aload_n 0, 1) := by decide +kernel
theorem dX12_claim_124 : decode cX12_claim 124 = .ok (.getfield 250, 3) := by decide +kernel
theorem dX12_claim_127 : decode cX12_claim 127 = .ok (.iastore, 1) := by decide +kernel
theorem dX12_claim_128 : decode cX12_claim 128 = .ok (.aload_n 0, 1) := by decide +kernel
theorem dX12_claim_129 : decode cX12_claim 129 = .ok (.dup, 1) := by decide +kernel
theorem dX12_claim_130 : decode cX12_claim 130 = .ok (.getfield 273, 3) := by decide +kernel
theorem dX12_claim_133 : decode cX12_claim 133 = .ok (.iconst 1, 1) := by decide +kernel
theorem dX12_claim_134 : decode cX12_claim 134 = .ok (.iadd, 1) := by decide +kernel
theorem dX12_claim_135 : decode cX12_claim 135 = .ok (.putfield 273, 3) := by decide +kernel
theorem dX12_claim_138 : decode cX12_claim 138 = .ok (.iconst 1, 1) := by decide +kernel
theorem dX12_claim_139 : decode cX12_claim 139 = .ok (.ireturn, 1) := by decide +kernel
theorem dX12_feed_0 : decode cX12_feed 0 = .ok (.aload_n 0, 1) := by decide +kernel
theorem dX12_feed_1 : decode cX12_feed 1 = .ok (.iconst 0, 1) := by decide +kernel
theorem dX12_feed_2 : decode cX12_feed 2 = .ok (.putfield 208, 3) := by decide +kernel
theorem dX12_feed_5 : decode cX12_feed 5 = .ok (.aload_n 0, 1) := by decide +kernel
theorem dX12_feed_6 : decode cX12_feed 6 = .ok (.getfield 276, 3) := by decide +kernel
theorem dX12_feed_9 : decode cX12_feed 9 = .ok (.bipush 20, 2) := by decide +kernel
theorem dX12_feed_11 : decode cX12_feed 11 = .ok (.iadd, 1) := by decide +kernel
theorem dX12_feed_12 : decode cX12_feed 12 = .ok (.sipush 500, 3) := by decide +kernel
theorem dX12_feed_15 : decode cX12_feed 15 = .ok (.if_icmp .le 5, 3) := by decide +kernel
theorem dX12_feed_18 : decode cX12_feed 18 = .ok (.iconst (-1), 1) := by decide +kernel
theorem dX12_feed_19 : decode cX12_feed 19 = .ok (.ireturn, 1) := by decide +kernel
theorem dX12_feed_20 : decode cX12_feed 20 = .ok (.aload_n 0, 1) := by decide +kernel
theorem dX12_feed_21 : decode cX12_feed 21 = .ok (.iload_n 1, 1) := by decide +kernel
theorem dX12_feed_22 : decode cX12_feed 22 = .ok (.invokevirtual 279, 3) := by decide +kernel
theorem dX12_feed_25 : decode cX12_feed 25 = .ok (.aload_n 0, 1) := by decide +kernel
theorem dX12_feed_26 : decode cX12_feed 26 = .ok (.iload_n 2, 1) := by decide +kernel
theorem dX12_feed_27 : decode cX12_feed 27 = .ok (.invokevirtual 279, 3) := by decide +kernel
theorem dX12_feed_30 : decode cX12_feed 30 = .ok (.aload_n 0, 1) := by decide +kernel
theorem dX12_feed_31 : decode cX12_feed 31 = .ok (.iload_n 3, 1) := by decide +kernel
theorem dX12_feed_32 : decode cX12_feed 32 = .ok (.invokevirtual 279, 3) := by decide +kernel
theorem dX12_feed_35 : decode cX12_feed 35 = .ok (.aload_n 0, 1) := by decide +kernel
theorem dX12_feed_36 : decode cX12_feed 36 = .ok (.iload 4, 2) := by decide +kernel
theorem dX12_feed_38 : decode cX12_feed 38 = .ok (.invokevirtual 279, 3) := by decide +kernel
theorem dX12_feed_41 : decode cX12_feed 41 = .ok (.aload_n 0, 1) := by decide +kernel
theorem dX12_feed_42 : decode cX12_feed 42 = .ok (.iload 5, 2) := by decide +kernel
theorem dX12_feed_44 : decode cX12_feed 44 = .ok (.invokevirtual 279, 3) := by decide +kernel
theorem dX12_feed_47 : decode cX12_feed 47 = .ok (.aload_n 0, 1) := by decide +kernel
theorem dX12_feed_48 : decode cX12_feed 48 = .ok (.getfield 276, 3) := by decide +kernel
theorem dX12_feed_51 : decode cX12_feed 51 = .ok (.ireturn, 1) := by decide +kernel
theorem dX12_lays_0 : decode cX12_lays 0 = .ok (.bipush 24, 2) := by decide +kernel
theorem dX12_lays_2 : decode cX12_lays 2 = .ok (.istore_n 2, 1) := by decide +kernel
theorem dX12_lays_3 : decode cX12_lays 3 = .ok (.iload_n 2, 1) := by decide +kernel
theorem dX12_lays_4 : decode cX12_lays 4 = .ok (.ifCond .lt 35, 3) := by decide +kernel
theorem dX12_lays_7 : decode cX12_lays 7 = .ok (.aload_n 0, 1) := by decide +kernel
theorem dX12_lays_8 : decode cX12_lays 8 = .ok (.getfield 98, 3) := by decide +kernel
theorem dX12_lays_11 : decode cX12_lays 11 = .ok (.aload_n 0, 1) := by decide +kernel
theorem dX12_lays_12 : decode cX12_lays 12 = .ok (.getfield 276, 3) := by decide +kernel
theorem dX12_lays_15 : decode cX12_lays 15 = .ok (.iload_n 1, 1) := by decide +kernel
theorem dX12_lays_16 : decode cX12_lays 16 = .ok (.iload_n 2, 1) := by decide +kernel
theorem dX12_lays_17 : decode cX12_lays 17 = .ok (.ishr, 1) := by decide +kernel
theorem dX12_lays_18 : decode cX12_lays 18 = .ok (.sipush 255, 3) := by decide +kernel
theorem dX12_lays_21 : decode cX12_lays 21 = .ok (.iand, 1) := by decide +kernel
theorem dX12_lays_22 : decode cX12_lays 22 = .ok (.iastore, 1) := by decide +kernel
theorem dX12_lays_23 : decode cX12_lays 23 = .ok (.aload_n 0, 1) := by decide +kernel
theorem dX12_lays_24 : decode cX12_lays 24 = .ok (.dup, 1) := by decide +kernel
theorem dX12_lays_25 : decode cX12_lays 25 = .ok (.getfield 276, 3) := by decide +kernel
theorem dX12_lays_28 : decode cX12_lays 28 = .ok (.iconst 1, 1) := by decide +kernel
theorem dX12_lays_29 : decode cX12_lays 29 = .ok (.iadd, 1) := by decide +kernel
theorem dX12_lays_30 : decode cX12_lays 30 = .ok (.putfield 276, 3) := by decide +kernel
theorem dX12_lays_33 : decode cX12_lays 33 = .ok (.iinc 2 (-8), 3) := by decide +kernel
theorem dX12_lays_36 : decode cX12_lays 36 = .ok (.goto (-33), 3) := by decide +kernel
theorem dX12_lays_39 : decode cX12_lays 39 = .ok (.return_, 1) := by decide +kernel
theorem dX12_byteAt_0 : decode cX12_byteAt 0 = .ok (.iload_n 1, 1) := by decide +kernel
theorem dX12_byteAt_1 : decode cX12_byteAt 1 = .ok (.aload_n 0, 1) := by decide +kernel
theorem dX12_byteAt_2 : decode cX12_byteAt 2 = .ok (.getfield 283, 3) := by decide +kernel
theorem dX12_byteAt_5 : decode cX12_byteAt 5 = .ok (.if_icmp .ge 12, 3) := by decide +kernel
theorem dX12_byteAt_8 : decode cX12_byteAt 8 = .ok (.aload_n 0, 1) := by decide +kernel
theorem dX12_byteAt_9 : decode cX12_byteAt 9 = .ok (.getfield 98, 3) := by decide +kernel
theorem dX12_byteAt_12 : decode cX12_byteAt 12 = .ok (.iload_n 1, 1) := by decide +kernel
theorem dX12_byteAt_13 : decode cX12_byteAt 13 = .ok (.iaload, 1) := by decide +kernel
theorem dX12_byteAt_14 : decode cX12_byteAt 14 = .ok (.goto 4, 3) := by decide +kernel
theorem dX12_byteAt_17 : decode cX12_byteAt 17 = .ok (.iconst 0, 1) := by decide +kernel
theorem dX12_byteAt_18 : decode cX12_byteAt 18 = .ok (.ireturn, 1) := by decide +kernel
theorem dX12_isLetter_0 : decode cX12_isLetter 0 = .ok (.iload_n 0, 1) := by decide +kernel
theorem dX12_isLetter_1 : decode cX12_isLetter 1 = .ok (.bipush 97, 2) := by decide +kernel
theorem dX12_isLetter_3 : decode cX12_isLetter 3 = .ok (.if_icmp .lt 13, 3) := by decide +kernel
theorem dX12_isLetter_6 : decode cX12_isLetter 6 = .ok (.iload_n 0, 1) := by decide +kernel
theorem dX12_isLetter_7 : decode cX12_isLetter 7 = .ok (.bipush 122, 2) := by decide +kernel
theorem dX12_isLetter_9 : decode cX12_isLetter 9 = .ok (.if_icmp .gt 7, 3) := by decide +kernel
theorem dX12_isLetter_12 : decode cX12_isLetter 12 = .ok (.iconst 1, 1) := by decide +kernel
theorem dX12_isLetter_13 : decode cX12_isLetter 13 = .ok (.goto 4, 3) := by decide +kernel
theorem dX12_isLetter_16 : decode cX12_isLetter 16 = .ok (.iconst 0, 1) := by decide +kernel
theorem dX12_isLetter_17 : decode cX12_isLetter 17 = .ok (.ireturn, 1) := by decide +kernel
theorem dX12_isDigit_0 : decode cX12_isDigit 0 = .ok (.iload_n 0, 1) := by decide +kernel
theorem dX12_isDigit_1 : decode cX12_isDigit 1 = .ok (.bipush 48, 2) := by decide +kernel
theorem dX12_isDigit_3 : decode cX12_isDigit 3 = .ok (.if_icmp .lt 13, 3) := by decide +kernel
theorem dX12_isDigit_6 : decode cX12_isDigit 6 = .ok (.iload_n 0, 1) := by decide +kernel
theorem dX12_isDigit_7 : decode cX12_isDigit 7 = .ok (.bipush 57, 2) := by decide +kernel
theorem dX12_isDigit_9 : decode cX12_isDigit 9 = .ok (.if_icmp .gt 7, 3) := by decide +kernel
theorem dX12_isDigit_12 : decode cX12_isDigit 12 = .ok (.iconst 1, 1) := by decide +kernel
theorem dX12_isDigit_13 : decode cX12_isDigit 13 = .ok (.goto 4, 3) := by decide +kernel
theorem dX12_isDigit_16 : decode cX12_isDigit 16 = .ok (.iconst 0, 1) := by decide +kernel
theorem dX12_isDigit_17 : decode cX12_isDigit 17 = .ok (.ireturn, 1) := by decide +kernel
theorem dX12_goes_0 : decode cX12_goes 0 = .ok (.aload_n 0, 1) := by decide +kernel
theorem dX12_goes_1 : decode cX12_goes 1 = .ok (.getfield 286, 3) := by decide +kernel
theorem dX12_goes_4 : decode cX12_goes 4 = .ok (.aload_n 0, 1) := by decide +kernel
theorem dX12_goes_5 : decode cX12_goes 5 = .ok (.getfield 283, 3) := by decide +kernel
theorem dX12_goes_8 : decode cX12_goes 8 = .ok (.if_icmp .ge 42, 3) := by decide +kernel
theorem dX12_goes_11 : decode cX12_goes 11 = .ok (.aload_n 0, 1) := by decide +kernel
theorem dX12_goes_12 : decode cX12_goes 12 = .ok (.aload_n 0, 1) := by decide +kernel
theorem dX12_goes_13 : decode cX12_goes 13 = .ok (.getfield 286, 3) := by decide +kernel
theorem dX12_goes_16 : decode cX12_goes 16 = .ok (.invokevirtual 289, 3) := by decide +kernel
theorem dX12_goes_19 : decode cX12_goes 19 = .ok (.bipush 32, 2) := by decide +kernel
theorem dX12_goes_21 : decode cX12_goes 21 = .ok (.if_icmp .eq 16, 3) := by decide +kernel
theorem dX12_goes_24 : decode cX12_goes 24 = .ok (.aload_n 0, 1) := by decide +kernel
theorem dX12_goes_25 : decode cX12_goes 25 = .ok (.aload_n 0, 1) := by decide +kernel
theorem dX12_goes_26 : decode cX12_goes 26 = .ok (.getfield 286, 3) := by decide +kernel
theorem dX12_goes_29 : decode cX12_goes 29 = .ok (.invokevirtual 289, 3) := by decide +kernel
theorem dX12_goes_32 : decode cX12_goes 32 = .ok (.bipush 10, 2) := by decide +kernel
theorem dX12_goes_34 : decode cX12_goes 34 = .ok (.if_icmp .ne 16, 3) := by decide +kernel
theorem dX12_goes_37 : decode cX12_goes 37 = .ok (.aload_n 0, 1) := by decide +kernel
theorem dX12_goes_38 : decode cX12_goes 38 = .ok (.dup, 1) := by decide +kernel
theorem dX12_goes_39 : decode cX12_goes 39 = .ok (.getfield 286, 3) := by decide +kernel
theorem dX12_goes_42 : decode cX12_goes 42 = .ok (.iconst 1, 1) := by decide +kernel
theorem dX12_goes_43 : decode cX12_goes 43 = .ok (.iadd, 1) := by decide +kernel
theorem dX12_goes_44 : decode cX12_goes 44 = .ok (.putfield 286, 3) := by decide +kernel
theorem dX12_goes_47 : decode cX12_goes 47 = .ok (.goto (-47), 3) := by decide +kernel
theorem dX12_goes_50 : decode cX12_goes 50 = .ok (.aload_n 0, 1) := by decide +kernel
theorem dX12_goes_51 : decode cX12_goes 51 = .ok (.aload_n 0, 1) := by decide +kernel
theorem dX12_goes_52 : decode cX12_goes 52 = .ok (.getfield 286, 3) := by decide +kernel
theorem dX12_goes_55 : decode cX12_goes 55 = .ok (.putfield 293, 3) := by decide +kernel
theorem dX12_goes_58 : decode cX12_goes 58 = .ok (.aload_n 0, 1) := by decide +kernel
theorem dX12_goes_59 : decode cX12_goes 59 = .ok (.lconst 0, 1) := by decide +kernel
theorem dX12_goes_60 : decode cX12_goes 60 = .ok (.putfield 296, 3) := by decide +kernel
theorem dX12_goes_63 : decode cX12_goes 63 = .ok (.aload_n 0, 1) := by decide +kernel
theorem dX12_goes_64 : decode cX12_goes 64 = .ok (.iconst 0, 1) := by decide +kernel
theorem dX12_goes_65 : decode cX12_goes 65 = .ok (.putfield 300, 3) := by decide +kernel
theorem dX12_goes_68 : decode cX12_goes 68 = .ok (.aload_n 0, 1) := by decide +kernel
theorem dX12_goes_69 : decode cX12_goes 69 = .ok (.aload_n 0, 1) := by decide +kernel
theorem dX12_goes_70 : decode cX12_goes 70 = .ok (.getfield 286, 3) := by decide +kernel
theorem dX12_goes_73 : decode cX12_goes 73 = .ok (.invokevirtual 289, 3) := by decide +kernel
theorem dX12_goes_76 : decode cX12_goes 76 = .ok (.istore_n 1, 1) := by decide +kernel
theorem dX12_goes_77 : decode cX12_goes 77 = .ok (.aload_n 0, 1) := by decide +kernel
theorem dX12_goes_78 : decode cX12_goes 78 = .ok (.iload_n 1, 1) := by decide +kernel
theorem dX12_goes_79 : decode cX12_goes 79 = .ok (.putfield 303, 3) := by decide +kernel
theorem dX12_goes_82 : decode cX12_goes 82 = .ok (.aload_n 0, 1) := by decide +kernel
theorem dX12_goes_83 : decode cX12_goes 83 = .ok (.getfield 286, 3) := by decide +kernel
theorem dX12_goes_86 : decode cX12_goes 86 = .ok (.aload_n 0, 1) := by decide +kernel
theorem dX12_goes_87 : decode cX12_goes 87 = .ok (.getfield 283, 3) := by decide +kernel
theorem dX12_goes_90 : decode cX12_goes 90 = .ok (.if_icmp .lt 11, 3) := by decide +kernel
theorem dX12_goes_93 : decode cX12_goes 93 = .ok (.aload_n 0, 1) := by decide +kernel
theorem dX12_goes_94 : decode cX12_goes 94 = .ok (.iconst 0, 1) := by decide +kernel
theorem dX12_goes_95 : decode cX12_goes 95 = .ok (.putfield 306, 3) := by decide +kernel
theorem dX12_goes_98 : decode cX12_goes 98 = .ok (.goto 234, 3) := by decide +kernel
theorem dX12_goes_101 : decode cX12_goes 101 = .ok (.iload_n 1, 1) := by decide +kernel
theorem dX12_goes_102 : decode cX12_goes 102 = .ok (.invokestatic 309, 3) := by decide +kernel
theorem dX12_goes_105 : decode cX12_goes 105 = .ok (.ifCond .eq 75, 3) := by decide +kernel
theorem dX12_goes_108 : decode cX12_goes 108 = .ok (.aload_n 0, 1) := by decide +kernel
theorem dX12_goes_109 : decode cX12_goes 109 = .ok (.aload_n 0, 1) := by decide +kernel
theorem dX12_goes_110 : decode cX12_goes 110 = .ok (.getfield 286, 3) := by decide +kernel
theorem dX12_goes_113 : decode cX12_goes 113 = .ok (.invokevirtual 289, 3) := by decide +kernel
theorem dX12_goes_116 : decode cX12_goes 116 = .ok (.invokestatic 309, 3) := by decide +kernel
theorem dX12_goes_119 : decode cX12_goes 119 = .ok (.ifCond .eq 53, 3) := by decide +kernel
theorem dX12_goes_122 : decode cX12_goes 122 = .ok (.aload_n 0, 1) := by decide +kernel
theorem dX12_goes_123 : decode cX12_goes 123 = .ok (.getfield 286, 3) := by decide +kernel
theorem dX12_goes_126 : decode cX12_goes 126 = .ok (.aload_n 0, 1) := by decide +kernel
theorem dX12_goes_127 : decode cX12_goes 127 = .ok (.getfield 293, 3) := by decide +kernel
theorem dX12_goes_130 : decode cX12_goes 130 = .ok (.isub, 1) := by decide +kernel
theorem dX12_goes_131 : decode cX12_goes 131 = .ok (.bipush 9, 2) := by decide +kernel
theorem dX12_goes_133 : decode cX12_goes 133 = .ok (.if_icmp .ge 26, 3) := by decide +kernel
theorem dX12_goes_136 : decode cX12_goes 136 = .ok (.aload_n 0, 1) := by decide +kernel
theorem dX12_goes_137 : decode cX12_goes 137 = .ok (.aload_n 0, 1) := by decide +kernel
theorem dX12_goes_138 : decode cX12_goes 138 = .ok (.getfield 296, 3) := by decide +kernel
theorem dX12_goes_141 : decode cX12_goes 141 = .ok (.iconst 5, 1) := by decide +kernel
theorem dX12_goes_142 : decode cX12_goes 142 = .ok (.lshl, 1) := by decide +kernel
theorem dX12_goes_143 : decode cX12_goes 143 = .ok (.aload_n 0, 1) := by decide +kernel
theorem dX12_goes_144 : decode cX12_goes 144 = .ok (.aload_n 0, 1) := by decide +kernel
theorem dX12_goes_145 : decode cX12_goes 145 = .ok (.getfield 286, 3) := by decide +kernel
theorem dX12_goes_148 : decode cX12_goes 148 = .ok (.invokevirtual 289, 3) := by decide +kernel
theorem dX12_goes_151 : decode cX12_goes 151 = .ok (.bipush 96, 2) := by decide +kernel
theorem dX12_goes_153 : decode cX12_goes 153 = .ok (.isub, 1) := by decide +kernel
theorem dX12_goes_154 : decode cX12_goes 154 = .ok (.i2l, 1) := by decide +kernel
theorem dX12_goes_155 : decode cX12_goes 155 = .ok (.lor, 1) := by decide +kernel
theorem dX12_goes_156 : decode cX12_goes 156 = .ok (.putfield 296, 3) := by decide +kernel
theorem dX12_goes_159 : decode cX12_goes 159 = .ok (.aload_n 0, 1) := by decide +kernel
theorem dX12_goes_160 : decode cX12_goes 160 = .ok (.dup, 1) := by decide +kernel
theorem dX12_goes_161 : decode cX12_goes 161 = .ok (.getfield 286, 3) := by decide +kernel
theorem dX12_goes_164 : decode cX12_goes 164 = .ok (.iconst 1, 1) := by decide +kernel
theorem dX12_goes_165 : decode cX12_goes 165 = .ok (.iadd, 1) := by decide +kernel
theorem dX12_goes_166 : decode cX12_goes 166 = .ok (.putfield 286, 3) := by decide +kernel
theorem dX12_goes_169 : decode cX12_goes 169 = .ok (.goto (-61), 3) := by decide +kernel
theorem dX12_goes_172 : decode cX12_goes 172 = .ok (.aload_n 0, 1) := by decide +kernel
theorem dX12_goes_173 : decode cX12_goes 173 = .ok (.iconst 1, 1) := by decide +kernel
theorem dX12_goes_174 : decode cX12_goes 174 = .ok (.putfield 306, 3) := by decide +kernel
theorem dX12_goes_177 : decode cX12_goes 177 = .ok (.goto 155, 3) := by decide +kernel
theorem dX12_goes_180 : decode cX12_goes 180 = .ok (.iload_n 1, 1) := by decide +kernel
theorem dX12_goes_181 : decode cX12_goes 181 = .ok (.invokestatic 312, 3) := by decide +kernel
theorem dX12_goes_184 : decode cX12_goes 184 = .ok (.ifCond .eq 75, 3) := by decide +kernel
theorem dX12_goes_187 : decode cX12_goes 187 = .ok (.aload_n 0, 1) := by decide +kernel
theorem dX12_goes_188 : decode cX12_goes 188 = .ok (.aload_n 0, 1) := by decide +kernel
theorem dX12_goes_189 : decode cX12_goes 189 = .ok (.getfield 286, 3) := by decide +kernel
theorem dX12_goes_192 : decode cX12_goes 192 = .ok (.invokevirtual 289, 3) := by decide +kernel
theorem dX12_goes_195 : decode cX12_goes 195 = .ok (.invokestatic 312, 3) := by decide +kernel
theorem dX12_goes_198 : decode cX12_goes 198 = .ok (.ifCond .eq 53, 3) := by decide +kernel
theorem dX12_goes_201 : decode cX12_goes 201 = .ok (.aload_n 0, 1) := by decide +kernel
theorem dX12_goes_202 : decode cX12_goes 202 = .ok (.getfield 286, 3) := by decide +kernel
theorem dX12_goes_205 : decode cX12_goes 205 = .ok (.aload_n 0, 1) := by decide +kernel
theorem dX12_goes_206 : decode cX12_goes 206 = .ok (.getfield 293, 3) := by decide +kernel
theorem dX12_goes_209 : decode cX12_goes 209 = .ok (.isub, 1) := by decide +kernel
theorem dX12_goes_210 : decode cX12_goes 210 = .ok (.bipush 8, 2) := by decide +kernel
theorem dX12_goes_212 : decode cX12_goes 212 = .ok (.if_icmp .ge 26, 3) := by decide +kernel
theorem dX12_goes_215 : decode cX12_goes 215 = .ok (.aload_n 0, 1) := by decide +kernel
theorem dX12_goes_216 : decode cX12_goes 216 = .ok (.bipush 10, 2) := by decide +kernel
theorem dX12_goes_218 : decode cX12_goes 218 = .ok (.aload_n 0, 1) := by decide +kernel
theorem dX12_goes_219 : decode cX12_goes 219 = .ok (.getfield 300, 3) := by decide +kernel
theorem dX12_goes_222 : decode cX12_goes 222 = .ok (.imul, 1) := by decide +kernel
theorem dX12_goes_223 : decode cX12_goes 223 = .ok (.aload_n 0, 1) := by decide +kernel
theorem dX12_goes_224 : decode cX12_goes 224 = .ok (.aload_n 0, 1) := by decide +kernel
theorem dX12_goes_225 : decode cX12_goes 225 = .ok (.getfield 286, 3) := by decide +kernel
theorem dX12_goes_228 : decode cX12_goes 228 = .ok (.invokevirtual 289, 3) := by decide +kernel
theorem dX12_goes_231 : decode cX12_goes 231 = .ok (.iadd, 1) := by decide +kernel
theorem dX12_goes_232 : decode cX12_goes 232 = .ok (.bipush 48, 2) := by decide +kernel
theorem dX12_goes_234 : decode cX12_goes 234 = .ok (.isub, 1) := by decide +kernel
theorem dX12_goes_235 : decode cX12_goes 235 = .ok (.putfield 300, 3) := by decide +kernel
theorem dX12_goes_238 : decode cX12_goes 238 = .ok (.aload_n 0, 1) := by decide +kernel
theorem dX12_goes_239 : decode cX12_goes 239 = .ok (.dup, 1) := by decide +kernel
theorem dX12_goes_240 : decode cX12_goes 240 = .ok (.getfield 286, 3) := by decide +kernel
theorem dX12_goes_243 : decode cX12_goes 243 = .ok (.iconst 1, 1) := by decide +kernel
theorem dX12_goes_244 : decode cX12_goes 244 = .ok (.iadd, 1) := by decide +kernel
theorem dX12_goes_245 : decode cX12_goes 245 = .ok (.putfield 286, 3) := by decide +kernel
theorem dX12_goes_248 : decode cX12_goes 248 = .ok (.goto (-61), 3) := by decide +kernel
theorem dX12_goes_251 : decode cX12_goes 251 = .ok (.aload_n 0, 1) := by decide +kernel
theorem dX12_goes_252 : decode cX12_goes 252 = .ok (.iconst 2, 1) := by decide +kernel
theorem dX12_goes_253 : decode cX12_goes 253 = .ok (.putfield 306, 3) := by decide +kernel
theorem dX12_goes_256 : decode cX12_goes 256 = .ok (.goto 76, 3) := by decide +kernel
theorem dX12_goes_259 : decode cX12_goes 259 = .ok (.aload_n 0, 1) := by decide +kernel
theorem dX12_goes_260 : decode cX12_goes 260 = .ok (.dup, 1) := by decide +kernel
theorem dX12_goes_261 : decode cX12_goes 261 = .ok (.getfield 286, 3) := by decide +kernel
theorem dX12_goes_264 : decode cX12_goes 264 = .ok (.iconst 1, 1) := by decide +kernel
theorem dX12_goes_265 : decode cX12_goes 265 = .ok (.iadd, 1) := by decide +kernel
theorem dX12_goes_266 : decode cX12_goes 266 = .ok (.putfield 286, 3) := by decide +kernel
theorem dX12_goes_269 : decode cX12_goes 269 = .ok (.aload_n 0, 1) := by decide +kernel
theorem dX12_goes_270 : decode cX12_goes 270 = .ok (.iload_n 1, 1) := by decide +kernel
theorem dX12_goes_271 : decode cX12_goes 271 = .ok (.bipush 59, 2) := by decide +kernel
theorem dX12_goes_273 : decode cX12_goes 273 = .ok (.if_icmp .eq 51, 3) := by decide +kernel
theorem dX12_goes_276 : decode cX12_goes 276 = .ok (.iload_n 1, 1) := by decide +kernel
theorem dX12_goes_277 : decode cX12_goes 277 = .ok (.bipush 40, 2) := by decide +kernel
theorem dX12_goes_279 : decode cX12_goes 279 = .ok (.if_icmp .eq 45, 3) := by decide +kernel
theorem dX12_goes_282 : decode cX12_goes 282 = .ok (.iload_n 1, 1) := by decide +kernel
theorem dX12_goes_283 : decode cX12_goes 283 = .ok (.bipush 41, 2) := by decide +kernel
theorem dX12_goes_285 : decode cX12_goes 285 = .ok (.if_icmp .eq 39, 3) := by decide +kernel
theorem dX12_goes_288 : decode cX12_goes 288 = .ok (.iload_n 1, 1) := by decide +kernel
theorem dX12_goes_289 : decode cX12_goes 289 = .ok (.bipush 43, 2) := by decide +kernel
theorem dX12_goes_291 : decode cX12_goes 291 = .ok (.if_icmp .eq 33, 3) := by decide +kernel
theorem dX12_goes_294 : decode cX12_goes 294 = .ok (.iload_n 1, 1) := by decide +kernel
theorem dX12_goes_295 : decode cX12_goes 295 = .ok (.bipush 45, 2) := by decide +kernel
theorem dX12_goes_297 : decode cX12_goes 297 = .ok (.if_icmp .eq 27, 3) := by decide +kernel
theorem dX12_goes_300 : decode cX12_goes 300 = .ok (.iload_n 1, 1) := by decide +kernel
theorem dX12_goes_301 : decode cX12_goes 301 = .ok (.bipush 42, 2) := by decide +kernel
theorem dX12_goes_303 : decode cX12_goes 303 = .ok (.if_icmp .eq 21, 3) := by decide +kernel
theorem dX12_goes_306 : decode cX12_goes 306 = .ok (.iload_n 1, 1) := by decide +kernel
theorem dX12_goes_307 : decode cX12_goes 307 = .ok (.bipush 47, 2) := by decide +kernel
theorem dX12_goes_309 : decode cX12_goes 309 = .ok (.if_icmp .eq 15, 3) := by decide +kernel
theorem dX12_goes_312 : decode cX12_goes 312 = .ok (.iload_n 1, 1) := by decide +kernel
theorem dX12_goes_313 : decode cX12_goes 313 = .ok (.bipush 60, 2) := by decide +kernel
theorem dX12_goes_315 : decode cX12_goes 315 = .ok (.if_icmp .eq 9, 3) := by decide +kernel
theorem dX12_goes_318 : decode cX12_goes 318 = .ok (.iload_n 1, 1) := by decide +kernel
theorem dX12_goes_319 : decode cX12_goes 319 = .ok (.bipush 61, 2) := by decide +kernel
theorem dX12_goes_321 : decode cX12_goes 321 = .ok (.if_icmp .ne 7, 3) := by decide +kernel
theorem dX12_goes_324 : decode cX12_goes 324 = .ok (.iconst 3, 1) := by decide +kernel
theorem dX12_goes_325 : decode cX12_goes 325 = .ok (.goto 4, 3) := by decide +kernel
theorem dX12_goes_328 : decode cX12_goes 328 = .ok (.iconst 4, 1) := by decide +kernel
theorem dX12_goes_329 : decode cX12_goes 329 = .ok (.putfield 306, 3) := by decide +kernel
theorem dX12_goes_332 : decode cX12_goes 332 = .ok (.aload_n 0, 1) := by decide +kernel
theorem dX12_goes_333 : decode cX12_goes 333 = .ok (.aload_n 0, 1) := by decide +kernel
theorem dX12_goes_334 : decode cX12_goes 334 = .ok (.getfield 286, 3) := by decide +kernel
theorem dX12_goes_337 : decode cX12_goes 337 = .ok (.aload_n 0, 1) := by decide +kernel
theorem dX12_goes_338 : decode cX12_goes 338 = .ok (.getfield 293, 3) := by decide +kernel
theorem dX12_goes_341 : decode cX12_goes 341 = .ok (.isub, 1) := by decide +kernel
theorem dX12_goes_342 : decode cX12_goes 342 = .ok (.putfield 315, 3) := by decide +kernel
theorem dX12_goes_345 : decode cX12_goes 345 = .ok (.return_, 1) := by decide +kernel
theorem dX12_spelled_0 : decode cX12_spelled 0 = .ok (.iload_n 0, 1) := by decide +kernel
theorem dX12_spelled_1 : decode cX12_spelled 1 = .ok (.bipush 96, 2) := by decide +kernel
theorem dX12_spelled_3 : decode cX12_spelled 3 = .ok (.isub, 1) := by decide +kernel
theorem dX12_spelled_4 : decode cX12_spelled 4 = .ok (.i2l, 1) := by decide +kernel
theorem dX12_spelled_5 : decode cX12_spelled 5 = .ok (.lstore 7, 2) := by decide +kernel
theorem dX12_spelled_7 : decode cX12_spelled 7 = .ok (.iload_n 1, 1) := by decide +kernel
theorem dX12_spelled_8 : decode cX12_spelled 8 = .ok (.ifCond .eq 15, 3) := by decide +kernel
theorem dX12_spelled_11 : decode cX12_spelled 11 = .ok (.lload 7, 2) := by decide +kernel
theorem dX12_spelled_13 : decode cX12_spelled 13 = .ok (.iconst 5, 1) := by decide +kernel
theorem dX12_spelled_14 : decode cX12_spelled 14 = .ok (.lshl, 1) := by decide +kernel
theorem dX12_spelled_15 : decode cX12_spelled 15 = .ok (.iload_n 1, 1) := by decide +kernel
theorem dX12_spelled_16 : decode cX12_spelled 16 = .ok (.bipush 96, 2) := by decide +kernel
theorem dX12_spelled_18 : decode cX12_spelled 18 = .ok (.isub, 1) := by decide +kernel
theorem dX12_spelled_19 : decode cX12_spelled 19 = .ok (.i2l, 1) := by decide +kernel
theorem dX12_spelled_20 : decode cX12_spelled 20 = .ok (.lor, 1) := by decide +kernel
theorem dX12_spelled_21 : decode cX12_spelled 21 = .ok (.lstore 7, 2) := by decide +kernel
theorem dX12_spelled_23 : decode cX12_spelled 23 = .ok (.iload_n 2, 1) := by decide +kernel
theorem dX12_spelled_24 : decode cX12_spelled 24 = .ok (.ifCond .eq 15, 3) := by decide +kernel
theorem dX12_spelled_27 : decode cX12_spelled 27 = .ok (.lload 7, 2) := by decide +kernel
theorem dX12_spelled_29 : decode cX12_spelled 29 = .ok (.iconst 5, 1) := by decide +kernel
theorem dX12_spelled_30 : decode cX12_spelled 30 = .ok (.lshl, 1) := by decide +kernel
theorem dX12_spelled_31 : decode cX12_spelled 31 = .ok (.iload_n 2, 1) := by decide +kernel
theorem dX12_spelled_32 : decode cX12_spelled 32 = .ok (.bipush 96, 2) := by decide +kernel
theorem dX12_spelled_34 : decode cX12_spelled 34 = .ok (.isub, 1) := by decide +kernel
theorem dX12_spelled_35 : decode cX12_spelled 35 = .ok (.i2l, 1) := by decide +kernel
theorem dX12_spelled_36 : decode cX12_spelled 36 = .ok (.lor, 1) := by decide +kernel
theorem dX12_spelled_37 : decode cX12_spelled 37 = .ok (.lstore 7, 2) := by decide +kernel
theorem dX12_spelled_39 : decode cX12_spelled 39 = .ok (.iload_n 3, 1) := by decide +kernel
theorem dX12_spelled_40 : decode cX12_spelled 40 = .ok (.ifCond .eq 15, 3) := by decide +kernel
theorem dX12_spelled_43 : decode cX12_spelled 43 = .ok (.lload 7, 2) := by decide +kernel
theorem dX12_spelled_45 : decode cX12_spelled 45 = .ok (.iconst 5, 1) := by decide +kernel
theorem dX12_spelled_46 : decode cX12_spelled 46 = .ok (.lshl, 1) := by decide +kernel
theorem dX12_spelled_47 : decode cX12_spelled 47 = .ok (.iload_n 3, 1) := by decide +kernel
theorem dX12_spelled_48 : decode cX12_spelled 48 = .ok (.bipush 96, 2) := by decide +kernel
theorem dX12_spelled_50 : decode cX12_spelled 50 = .ok (.isub, 1) := by decide +kernel
theorem dX12_spelled_51 : decode cX12_spelled 51 = .ok (.i2l, 1) := by decide +kernel
theorem dX12_spelled_52 : decode cX12_spelled 52 = .ok (.lor, 1) := by decide +kernel
theorem dX12_spelled_53 : decode cX12_spelled 53 = .ok (.lstore 7, 2) := by decide +kernel
theorem dX12_spelled_55 : decode cX12_spelled 55 = .ok (.iload 4, 2) := by decide +kernel
theorem dX12_spelled_57 : decode cX12_spelled 57 = .ok (.ifCond .eq 16, 3) := by decide +kernel
theorem dX12_spelled_60 : decode cX12_spelled 60 = .ok (.lload 7, 2) := by decide +kernel
theorem dX12_spelled_62 : decode cX12_spelled 62 = .ok (.iconst 5, 1) := by decide +kernel
theorem dX12_spelled_63 : decode cX12_spelled 63 = .ok (.lshl, 1) := by decide +kernel
theorem dX12_spelled_64 : decode cX12_spelled 64 = .ok (.iload 4, 2) := by decide +kernel
theorem dX12_spelled_66 : decode cX12_spelled 66 = .ok (.bipush 96, 2) := by decide +kernel
theorem dX12_spelled_68 : decode cX12_spelled 68 = .ok (.isub, 1) := by decide +kernel
theorem dX12_spelled_69 : decode cX12_spelled 69 = .ok (.i2l, 1) := by decide +kernel
theorem dX12_spelled_70 : decode cX12_spelled 70 = .ok (.lor, 1) := by decide +kernel
theorem dX12_spelled_71 : decode cX12_spelled 71 = .ok (.lstore 7, 2) := by decide +kernel
theorem dX12_spelled_73 : decode cX12_spelled 73 = .ok (.iload 5, 2) := by decide +kernel
theorem dX12_spelled_75 : decode cX12_spelled 75 = .ok (.ifCond .eq 16, 3) := by decide +kernel
theorem dX12_spelled_78 : decode cX12_spelled 78 = .ok (.lload 7, 2) := by decide +kernel
theorem dX12_spelled_80 : decode cX12_spelled 80 = .ok (.iconst 5, 1) := by decide +kernel
theorem dX12_spelled_81 : decode cX12_spelled 81 = .ok (.lshl, 1) := by decide +kernel
theorem dX12_spelled_82 : decode cX12_spelled 82 = .ok (.iload 5, 2) := by decide +kernel
theorem dX12_spelled_84 : decode cX12_spelled 84 = .ok (.bipush 96, 2) := by decide +kernel
theorem dX12_spelled_86 : decode cX12_spelled 86 = .ok (.isub, 1) := by decide +kernel
theorem dX12_spelled_87 : decode cX12_spelled 87 = .ok (.i2l, 1) := by decide +kernel
theorem dX12_spelled_88 : decode cX12_spelled 88 = .ok (.lor, 1) := by decide +kernel
theorem dX12_spelled_89 : decode cX12_spelled 89 = .ok (.lstore 7, 2) := by decide +kernel
theorem dX12_spelled_91 : decode cX12_spelled 91 = .ok (.iload 6, 2) := by decide +kernel
theorem dX12_spelled_93 : decode cX12_spelled 93 = .ok (.ifCond .eq 16, 3) := by decide +kernel
theorem dX12_spelled_96 : decode cX12_spelled 96 = .ok (.lload 7, 2) := by decide +kernel
theorem dX12_spelled_98 : decode cX12_spelled 98 = .ok (.iconst 5, 1) := by decide +kernel
theorem dX12_spelled_99 : decode cX12_spelled 99 = .ok (.lshl, 1) := by decide +kernel
theorem dX12_spelled_100 : decode cX12_spelled 100 = .ok (.iload 6, 2) := by decide +kernel
theorem dX12_spelled_102 : decode cX12_spelled 102 = .ok (.bipush 96, 2) := by decide +kernel
theorem dX12_spelled_104 : decode cX12_spelled 104 = .ok (.isub, 1) := by decide +kernel
theorem dX12_spelled_105 : decode cX12_spelled 105 = .ok (.i2l, 1) := by decide +kernel
theorem dX12_spelled_106 : decode cX12_spelled 106 = .ok (.lor, 1) := by decide +kernel
theorem dX12_spelled_107 : decode cX12_spelled 107 = .ok (.lstore 7, 2) := by decide +kernel
theorem dX12_spelled_109 : decode cX12_spelled 109 = .ok (.lload 7, 2) := by decide +kernel
theorem dX12_spelled_111 : decode cX12_spelled 111 = .ok (.lreturn, 1) := by decide +kernel
theorem dX12_known_0 : decode cX12_known 0 = .ok (.iload_n 0, 1) := by decide +kernel
theorem dX12_known_1 : decode cX12_known 1 = .ok (.tableswitch 402 0 19 #[95, 109, 124, 139, 155, 170, 186, 202, 219, 233, 246, 260, 276, 293, 309, 323, 340, 355, 370, 386], 95) := by decide +kernel
theorem dX12_known_96 : decode cX12_known 96 = .ok (.bipush 100, 2) := by decide +kernel
theorem dX12_known_98 : decode cX12_known 98 = .ok (.bipush 117, 2) := by decide +kernel
theorem dX12_known_100 : decode cX12_known 100 = .ok (.bipush 101, 2) := by decide +kernel
theorem dX12_known_102 : decode cX12_known 102 = .ok (.iconst 0, 1) := by decide +kernel
theorem dX12_known_103 : decode cX12_known 103 = .ok (.iconst 0, 1) := by decide +kernel
theorem dX12_known_104 : decode cX12_known 104 = .ok (.iconst 0, 1) := by decide +kernel
theorem dX12_known_105 : decode cX12_known 105 = .ok (.iconst 0, 1) := by decide +kernel
theorem dX12_known_106 : decode cX12_known 106 = .ok (.invokestatic 318, 3) := by decide +kernel
theorem dX12_known_109 : decode cX12_known 109 = .ok (.lreturn, 1) := by decide +kernel
theorem dX12_known_110 : decode cX12_known 110 = .ok (.bipush 115, 2) := by decide +kernel
theorem dX12_known_112 : decode cX12_known 112 = .ok (.bipush 116, 2) := by decide +kernel
theorem dX12_known_114 : decode cX12_known 114 = .ok (.bipush 101, 2) := by decide +kernel
theorem dX12_known_116 : decode cX12_known 116 = .ok (.bipush 112, 2) := by decide +kernel
theorem dX12_known_118 : decode cX12_known 118 = .ok (.iconst 0, 1) := by decide +kernel
theorem dX12_known_119 : decode cX12_known 119 = .ok (.iconst 0, 1) := by decide +kernel
theorem dX12_known_120 : decode cX12_known 120 = .ok (.iconst 0, 1) := by decide +kernel
theorem dX12_known_121 : decode cX12_known 121 = .ok (.invokestatic 318, 3) := by decide +kernel
theorem dX12_known_124 : decode cX12_known 124 = .ok (.lreturn, 1) := by decide +kernel
theorem dX12_known_125 : decode cX12_known 125 = .ok (.bipush 114, 2) := by decide +kernel
theorem dX12_known_127 : decode cX12_known 127 = .ok (.bipush 101, 2) := by decide +kernel
theorem dX12_known_129 : decode cX12_known 129 = .ok (.bipush 115, 2) := by decide +kernel
theorem dX12_known_131 : decode cX12_known 131 = .ok (.bipush 116, 2) := by decide +kernel
theorem dX12_known_133 : decode cX12_known 133 = .ok (.iconst 0, 1) := by decide +kernel
theorem dX12_known_134 : decode cX12_known 134 = .ok (.iconst 0, 1) := by decide +kernel
theorem dX12_known_135 : decode cX12_known 135 = .ok (.iconst 0, 1) := by decide +kernel
theorem dX12_known_136 : decode cX12_known 136 = .ok (.invokestatic 318, 3) := by decide +kernel
theorem dX12_known_139 : decode cX12_known 139 = .ok (.lreturn, 1) := by decide +kernel
theorem dX12_known_140 : decode cX12_known 140 = .ok (.bipush 108, 2) := by decide +kernel
theorem dX12_known_142 : decode cX12_known 142 = .ok (.bipush 101, 2) := by decide +kernel
theorem dX12_known_144 : decode cX12_known 144 = .ok (.bipush 97, 2) := by decide +kernel
theorem dX12_known_146 : decode cX12_known 146 = .ok (.bipush 115, 2) := by decide +kernel
theorem dX12_known_148 : decode cX12_known 148 = .ok (.bipush 116, 2) := by decide +kernel
theorem dX12_known_150 : decode cX12_known 150 = .ok (.iconst 0, 1) := by decide +kernel
theorem dX12_known_151 : decode cX12_known 151 = .ok (.iconst 0, 1) := by decide +kernel
theorem dX12_known_152 : decode cX12_known 152 = .ok (.invokestatic 318, 3) := by decide +kernel
theorem dX12_known_155 : decode cX12_known 155 = .ok (.lreturn, 1) := by decide +kernel
theorem dX12_known_156 : decode cX12_known 156 = .ok (.bipush 109, 2) := by decide +kernel
theorem dX12_known_158 : decode cX12_known 158 = .ok (.bipush 111, 2) := by decide +kernel
theorem dX12_known_160 : decode cX12_known 160 = .ok (.bipush 115, 2) := by decide +kernel
theorem dX12_known_162 : decode cX12_known 162 = .ok (.bipush 116, 2) := by decide +kernel
theorem dX12_known_164 : decode cX12_known 164 = .ok (.iconst 0, 1) := by decide +kernel
theorem dX12_known_165 : decode cX12_known 165 = .ok (.iconst 0, 1) := by decide +kernel
theorem dX12_known_166 : decode cX12_known 166 = .ok (.iconst 0, 1) := by decide +kernel
theorem dX12_known_167 : decode cX12_known 167 = .ok (.invokestatic 318, 3) := by decide +kernel
theorem dX12_known_170 : decode cX12_known 170 = .ok (.lreturn, 1) := by decide +kernel
theorem dX12_known_171 : decode cX12_known 171 = .ok (.bipush 121, 2) := by decide +kernel
theorem dX12_known_173 : decode cX12_known 173 = .ok (.bipush 101, 2) := by decide +kernel
theorem dX12_known_175 : decode cX12_known 175 = .ok (.bipush 97, 2) := by decide +kernel
theorem dX12_known_177 : decode cX12_known 177 = .ok (.bipush 114, 2) := by decide +kernel
theorem dX12_known_179 : decode cX12_known 179 = .ok (.bipush 115, 2) := by decide +kernel
theorem dX12_known_181 : decode cX12_known 181 = .ok (.iconst 0, 1) := by decide +kernel
theorem dX12_known_182 : decode cX12_known 182 = .ok (.iconst 0, 1) := by decide +kernel
theorem dX12_known_183 : decode cX12_known 183 = .ok (.invokestatic 318, 3) := by decide +kernel
theorem dX12_known_186 : decode cX12_known 186 = .ok (.lreturn, 1) := by decide +kernel
theorem dX12_known_187 : decode cX12_known 187 = .ok (.bipush 99, 2) := by decide +kernel
theorem dX12_known_189 : decode cX12_known 189 = .ok (.bipush 108, 2) := by decide +kernel
theorem dX12_known_191 : decode cX12_known 191 = .ok (.bipush 97, 2) := by decide +kernel
theorem dX12_known_193 : decode cX12_known 193 = .ok (.bipush 105, 2) := by decide +kernel
theorem dX12_known_195 : decode cX12_known 195 = .ok (.bipush 109, 2) := by decide +kernel
theorem dX12_known_197 : decode cX12_known 197 = .ok (.iconst 0, 1) := by decide +kernel
theorem dX12_known_198 : decode cX12_known 198 = .ok (.iconst 0, 1) := by decide +kernel
theorem dX12_known_199 : decode cX12_known 199 = .ok (.invokestatic 318, 3) := by decide +kernel
theorem dX12_known_202 : decode cX12_known 202 = .ok (.lreturn, 1) := by decide +kernel
theorem dX12_known_203 : decode cX12_known 203 = .ok (.bipush 97, 2) := by decide +kernel
theorem dX12_known_205 : decode cX12_known 205 = .ok (.bipush 103, 2) := by decide +kernel
theorem dX12_known_207 : decode cX12_known 207 = .ok (.bipush 114, 2) := by decide +kernel
theorem dX12_known_209 : decode cX12_known 209 = .ok (.bipush 101, 2) := by decide +kernel
theorem dX12_known_211 : decode cX12_known 211 = .ok (.bipush 101, 2) := by decide +kernel
theorem dX12_known_213 : decode cX12_known 213 = .ok (.bipush 115, 2) := by decide +kernel
theorem dX12_known_215 : decode cX12_known 215 = .ok (.iconst 0, 1) := by decide +kernel
theorem dX12_known_216 : decode cX12_known 216 = .ok (.invokestatic 318, 3) := by decide +kernel
theorem dX12_known_219 : decode cX12_known 219 = .ok (.lreturn, 1) := by decide +kernel
theorem dX12_known_220 : decode cX12_known 220 = .ok (.bipush 97, 2) := by decide +kernel
theorem dX12_known_222 : decode cX12_known 222 = .ok (.bipush 110, 2) := by decide +kernel
theorem dX12_known_224 : decode cX12_known 224 = .ok (.bipush 100, 2) := by decide +kernel
theorem dX12_known_226 : decode cX12_known 226 = .ok (.iconst 0, 1) := by decide +kernel
theorem dX12_known_227 : decode cX12_known 227 = .ok (.iconst 0, 1) := by decide +kernel
theorem dX12_known_228 : decode cX12_known 228 = .ok (.iconst 0, 1) := by decide +kernel
theorem dX12_known_229 : decode cX12_known 229 = .ok (.iconst 0, 1) := by decide +kernel
theorem dX12_known_230 : decode cX12_known 230 = .ok (.invokestatic 318, 3) := by decide +kernel
theorem dX12_known_233 : decode cX12_known 233 = .ok (.lreturn, 1) := by decide +kernel
theorem dX12_known_234 : decode cX12_known 234 = .ok (.bipush 111, 2) := by decide +kernel
theorem dX12_known_236 : decode cX12_known 236 = .ok (.bipush 114, 2) := by decide +kernel
theorem dX12_known_238 : decode cX12_known 238 = .ok (.iconst 0, 1) := by decide +kernel
theorem dX12_known_239 : decode cX12_known 239 = .ok (.iconst 0, 1) := by decide +kernel
theorem dX12_known_240 : decode cX12_known 240 = .ok (.iconst 0, 1) := by decide +kernel
theorem dX12_known_241 : decode cX12_known 241 = .ok (.iconst 0, 1) := by decide +kernel
theorem dX12_known_242 : decode cX12_known 242 = .ok (.iconst 0, 1) := by decide +kernel
theorem dX12_known_243 : decode cX12_known 243 = .ok (.invokestatic 318, 3) := by decide +kernel
theorem dX12_known_246 : decode cX12_known 246 = .ok (.lreturn, 1) := by decide +kernel
theorem dX12_known_247 : decode cX12_known 247 = .ok (.bipush 110, 2) := by decide +kernel
theorem dX12_known_249 : decode cX12_known 249 = .ok (.bipush 111, 2) := by decide +kernel
theorem dX12_known_251 : decode cX12_known 251 = .ok (.bipush 116, 2) := by decide +kernel
theorem dX12_known_253 : decode cX12_known 253 = .ok (.iconst 0, 1) := by decide +kernel
theorem dX12_known_254 : decode cX12_known 254 = .ok (.iconst 0, 1) := by decide +kernel
theorem dX12_known_255 : decode cX12_known 255 = .ok (.iconst 0, 1) := by decide +kernel
theorem dX12_known_256 : decode cX12_known 256 = .ok (.iconst 0, 1) := by decide +kernel
theorem dX12_known_257 : decode cX12_known 257 = .ok (.invokestatic 318, 3) := by decide +kernel
theorem dX12_known_260 : decode cX12_known 260 = .ok (.lreturn, 1) := by decide +kernel
theorem dX12_known_261 : decode cX12_known 261 = .ok (.bipush 112, 2) := by decide +kernel
theorem dX12_known_263 : decode cX12_known 263 = .ok (.bipush 114, 2) := by decide +kernel
theorem dX12_known_265 : decode cX12_known 265 = .ok (.bipush 105, 2) := by decide +kernel
theorem dX12_known_267 : decode cX12_known 267 = .ok (.bipush 99, 2) := by decide +kernel
theorem dX12_known_269 : decode cX12_known 269 = .ok (.bipush 101, 2) := by decide +kernel
theorem dX12_known_271 : decode cX12_known 271 = .ok (.iconst 0, 1) := by decide +kernel
theorem dX12_known_272 : decode cX12_known 272 = .ok (.iconst 0, 1) := by decide +kernel
theorem dX12_known_273 : decode cX12_known 273 = .ok (.invokestatic 318, 3) := by decide +kernel
theorem dX12_known_276 : decode cX12_known 276 = .ok (.lreturn, 1) := by decide +kernel
theorem dX12_known_277 : decode cX12_known 277 = .ok (.bipush 115, 2) := by decide +kernel
theorem dX12_known_279 : decode cX12_known 279 = .ok (.bipush 101, 2) := by decide +kernel
theorem dX12_known_281 : decode cX12_known 281 = .ok (.bipush 108, 2) := by decide +kernel
theorem dX12_known_283 : decode cX12_known 283 = .ok (.bipush 108, 2) := by decide +kernel
theorem dX12_known_285 : decode cX12_known 285 = .ok (.bipush 101, 2) := by decide +kernel
theorem dX12_known_287 : decode cX12_known 287 = .ok (.bipush 114, 2) := by decide +kernel
theorem dX12_known_289 : decode cX12_known 289 = .ok (.iconst 0, 1) := by decide +kernel
theorem dX12_known_290 : decode cX12_known 290 = .ok (.invokestatic 318, 3) := by decide +kernel
theorem dX12_known_293 : decode cX12_known 293 = .ok (.lreturn, 1) := by decide +kernel
theorem dX12_known_294 : decode cX12_known 294 = .ok (.bipush 98, 2) := by decide +kernel
theorem dX12_known_296 : decode cX12_known 296 = .ok (.bipush 117, 2) := by decide +kernel
theorem dX12_known_298 : decode cX12_known 298 = .ok (.bipush 121, 2) := by decide +kernel
theorem dX12_known_300 : decode cX12_known 300 = .ok (.bipush 101, 2) := by decide +kernel
theorem dX12_known_302 : decode cX12_known 302 = .ok (.bipush 114, 2) := by decide +kernel
theorem dX12_known_304 : decode cX12_known 304 = .ok (.iconst 0, 1) := by decide +kernel
theorem dX12_known_305 : decode cX12_known 305 = .ok (.iconst 0, 1) := by decide +kernel
theorem dX12_known_306 : decode cX12_known 306 = .ok (.invokestatic 318, 3) := by decide +kernel
theorem dX12_known_309 : decode cX12_known 309 = .ok (.lreturn, 1) := by decide +kernel
theorem dX12_known_310 : decode cX12_known 310 = .ok (.bipush 104, 2) := by decide +kernel
theorem dX12_known_312 : decode cX12_known 312 = .ok (.bipush 111, 2) := by decide +kernel
theorem dX12_known_314 : decode cX12_known 314 = .ok (.bipush 119, 2) := by decide +kernel
theorem dX12_known_316 : decode cX12_known 316 = .ok (.iconst 0, 1) := by decide +kernel
theorem dX12_known_317 : decode cX12_known 317 = .ok (.iconst 0, 1) := by decide +kernel
theorem dX12_known_318 : decode cX12_known 318 = .ok (.iconst 0, 1) := by decide +kernel
theorem dX12_known_319 : decode cX12_known 319 = .ok (.iconst 0, 1) := by decide +kernel
theorem dX12_known_320 : decode cX12_known 320 = .ok (.invokestatic 318, 3) := by decide +kernel
theorem dX12_known_323 : decode cX12_known 323 = .ok (.lreturn, 1) := by decide +kernel
theorem dX12_known_324 : decode cX12_known 324 = .ok (.bipush 97, 2) := by decide +kernel
theorem dX12_known_326 : decode cX12_known 326 = .ok (.bipush 114, 2) := by decide +kernel
theorem dX12_known_328 : decode cX12_known 328 = .ok (.bipush 116, 2) := by decide +kernel
theorem dX12_known_330 : decode cX12_known 330 = .ok (.bipush 105, 2) := by decide +kernel
theorem dX12_known_332 : decode cX12_known 332 = .ok (.bipush 115, 2) := by decide +kernel
theorem dX12_known_334 : decode cX12_known 334 = .ok (.bipush 116, 2) := by decide +kernel
theorem dX12_known_336 : decode cX12_known 336 = .ok (.iconst 0, 1) := by decide +kernel
theorem dX12_known_337 : decode cX12_known 337 = .ok (.invokestatic 318, 3) := by decide +kernel
theorem dX12_known_340 : decode cX12_known 340 = .ok (.lreturn, 1) := by decide +kernel
theorem dX12_known_341 : decode cX12_known 341 = .ok (.bipush 104, 2) := by decide +kernel
theorem dX12_known_343 : decode cX12_known 343 = .ok (.bipush 101, 2) := by decide +kernel
theorem dX12_known_345 : decode cX12_known 345 = .ok (.bipush 108, 2) := by decide +kernel
theorem dX12_known_347 : decode cX12_known 347 = .ok (.bipush 100, 2) := by decide +kernel
theorem dX12_known_349 : decode cX12_known 349 = .ok (.iconst 0, 1) := by decide +kernel
theorem dX12_known_350 : decode cX12_known 350 = .ok (.iconst 0, 1) := by decide +kernel
theorem dX12_known_351 : decode cX12_known 351 = .ok (.iconst 0, 1) := by decide +kernel
theorem dX12_known_352 : decode cX12_known 352 = .ok (.invokestatic 318, 3) := by decide +kernel
theorem dX12_known_355 : decode cX12_known 355 = .ok (.lreturn, 1) := by decide +kernel
theorem dX12_known_356 : decode cX12_known 356 = .ok (.bipush 102, 2) := by decide +kernel
theorem dX12_known_358 : decode cX12_known 358 = .ok (.bipush 114, 2) := by decide +kernel
theorem dX12_known_360 : decode cX12_known 360 = .ok (.bipush 111, 2) := by decide +kernel
theorem dX12_known_362 : decode cX12_known 362 = .ok (.bipush 109, 2) := by decide +kernel
theorem dX12_known_364 : decode cX12_known 364 = .ok (.iconst 0, 1) := by decide +kernel
theorem dX12_known_365 : decode cX12_known 365 = .ok (.iconst 0, 1) := by decide +kernel
theorem dX12_known_366 : decode cX12_known 366 = .ok (.iconst 0, 1) := by decide +kernel
theorem dX12_known_367 : decode cX12_known 367 = .ok (.invokestatic 318, 3) := by decide +kernel
theorem dX12_known_370 : decode cX12_known 370 = .ok (.lreturn, 1) := by decide +kernel
theorem dX12_known_371 : decode cX12_known 371 = .ok (.bipush 97, 2) := by decide +kernel
theorem dX12_known_373 : decode cX12_known 373 = .ok (.bipush 103, 2) := by decide +kernel
theorem dX12_known_375 : decode cX12_known 375 = .ok (.bipush 97, 2) := by decide +kernel
theorem dX12_known_377 : decode cX12_known 377 = .ok (.bipush 105, 2) := by decide +kernel
theorem dX12_known_379 : decode cX12_known 379 = .ok (.bipush 110, 2) := by decide +kernel
theorem dX12_known_381 : decode cX12_known 381 = .ok (.iconst 0, 1) := by decide +kernel
theorem dX12_known_382 : decode cX12_known 382 = .ok (.iconst 0, 1) := by decide +kernel
theorem dX12_known_383 : decode cX12_known 383 = .ok (.invokestatic 318, 3) := by decide +kernel
theorem dX12_known_386 : decode cX12_known 386 = .ok (.lreturn, 1) := by decide +kernel
theorem dX12_known_387 : decode cX12_known 387 = .ok (.bipush 106, 2) := by decide +kernel
theorem dX12_known_389 : decode cX12_known 389 = .ok (.bipush 111, 2) := by decide +kernel
theorem dX12_known_391 : decode cX12_known 391 = .ok (.bipush 105, 2) := by decide +kernel
theorem dX12_known_393 : decode cX12_known 393 = .ok (.bipush 110, 2) := by decide +kernel
theorem dX12_known_395 : decode cX12_known 395 = .ok (.bipush 116, 2) := by decide +kernel
theorem dX12_known_397 : decode cX12_known 397 = .ok (.iconst 0, 1) := by decide +kernel
theorem dX12_known_398 : decode cX12_known 398 = .ok (.iconst 0, 1) := by decide +kernel
theorem dX12_known_399 : decode cX12_known 399 = .ok (.invokestatic 318, 3) := by decide +kernel
theorem dX12_known_402 : decode cX12_known 402 = .ok (.lreturn, 1) := by decide +kernel
theorem dX12_known_403 : decode cX12_known 403 = .ok (.bipush 101, 2) := by decide +kernel
theorem dX12_known_405 : decode cX12_known 405 = .ok (.bipush 100, 2) := by decide +kernel
theorem dX12_known_407 : decode cX12_known 407 = .ok (.bipush 105, 2) := by decide +kernel
theorem dX12_known_409 : decode cX12_known 409 = .ok (.bipush 116, 2) := by decide +kernel
theorem dX12_known_411 : decode cX12_known 411 = .ok (.bipush 105, 2) := by decide +kernel
theorem dX12_known_413 : decode cX12_known 413 = .ok (.bipush 111, 2) := by decide +kernel
theorem dX12_known_415 : decode cX12_known 415 = .ok (.bipush 110, 2) := by decide +kernel
theorem dX12_known_417 : decode cX12_known 417 = .ok (.invokestatic 318, 3) := by decide +kernel
theorem dX12_known_420 : decode cX12_known 420 = .ok (.lreturn, 1) := by decide +kernel
theorem dX12_knownWord_0 : decode cX12_knownWord 0 = .ok (.aload_n 0, 1) := by decide +kernel
theorem dX12_knownWord_1 : decode cX12_knownWord 1 = .ok (.getfield 306, 3) := by decide +kernel
theorem dX12_knownWord_4 : decode cX12_knownWord 4 = .ok (.iconst 1, 1) := by decide +kernel
theorem dX12_knownWord_5 : decode cX12_knownWord 5 = .ok (.if_icmp .ne 12, 3) := by decide +kernel
theorem dX12_knownWord_8 : decode cX12_knownWord 8 = .ok (.aload_n 0, 1) := by decide +kernel
theorem dX12_knownWord_9 : decode cX12_knownWord 9 = .ok (.getfield 315, 3) := by decide +kernel
theorem dX12_knownWord_12 : decode cX12_knownWord 12 = .ok (.bipush 8, 2) := by decide +kernel
theorem dX12_knownWord_14 : decode cX12_knownWord 14 = .ok (.if_icmp .le 5, 3) := by decide +kernel
theorem dX12_knownWord_17 : decode cX12_knownWord 17 = .ok (.iconst (-1), 1) := by decide +kernel
theorem dX12_knownWord_18 : decode cX12_knownWord 18 = .ok (.ireturn, 1) := by decide +kernel
theorem dX12_knownWord_19 : decode cX12_knownWord 19 = .ok (.iconst 0, 1) := by decide +kernel
theorem dX12_knownWord_20 : decode cX12_knownWord 20 = .ok (.istore_n 1, 1) := by decide +kernel
theorem dX12_knownWord_21 : decode cX12_knownWord 21 = .ok (.iload_n 1, 1) := by decide +kernel
theorem dX12_knownWord_22 : decode cX12_knownWord 22 = .ok (.bipush 21, 2) := by decide +kernel
theorem dX12_knownWord_24 : decode cX12_knownWord 24 = .ok (.if_icmp .ge 23, 3) := by decide +kernel
theorem dX12_knownWord_27 : decode cX12_knownWord 27 = .ok (.iload_n 1, 1) := by decide +kernel
theorem dX12_knownWord_28 : decode cX12_knownWord 28 = .ok (.invokestatic 322, 3) := by decide +kernel
theorem dX12_knownWord_31 : decode cX12_knownWord 31 = .ok (.aload_n 0, 1) := by decide +kernel
theorem dX12_knownWord_32 : decode cX12_knownWord 32 = .ok (.getfield 296, 3) := by decide +kernel
theorem dX12_knownWord_35 : decode cX12_knownWord 35 = .ok (.lcmp, 1) := by decide +kernel
theorem dX12_knownWord_36 : decode cX12_knownWord 36 = .ok (.ifCond .ne 5, 3) := by decide +kernel
theorem dX12_knownWord_39 : decode cX12_knownWord 39 = .ok (.iload_n 1, 1) := by decide +kernel
theorem dX12_knownWord_40 : decode cX12_knownWord 40 = .ok (.ireturn, 1) := by decide +kernel
theorem dX12_knownWord_41 : decode cX12_knownWord 41 = .ok (.iinc 1 1, 3) := by decide +kernel
theorem dX12_knownWord_44 : decode cX12_knownWord 44 = .ok (.goto (-23), 3) := by decide +kernel
theorem dX12_knownWord_47 : decode cX12_knownWord 47 = .ok (.iconst (-1), 1) := by decide +kernel
theorem dX12_knownWord_48 : decode cX12_knownWord 48 = .ok (.ireturn, 1) := by decide +kernel
theorem dX12_wrong_0 : decode cX12_wrong 0 = .ok (.aload_n 0, 1) := by decide +kernel
theorem dX12_wrong_1 : decode cX12_wrong 1 = .ok (.getfield 326, 3) := by decide +kernel
theorem dX12_wrong_4 : decode cX12_wrong 4 = .ok (.ifCond .eq 4, 3) := by decide +kernel
theorem dX12_wrong_7 : decode cX12_wrong 7 = .ok (.return_, 1) := by decide +kernel
theorem dX12_wrong_8 : decode cX12_wrong 8 = .ok (.aload_n 0, 1) := by decide +kernel
theorem dX12_wrong_9 : decode cX12_wrong 9 = .ok (.iload_n 1, 1) := by decide +kernel
theorem dX12_wrong_10 : decode cX12_wrong 10 = .ok (.putfield 326, 3) := by decide +kernel
theorem dX12_wrong_13 : decode cX12_wrong 13 = .ok (.aload_n 0, 1) := by decide +kernel
theorem dX12_wrong_14 : decode cX12_wrong 14 = .ok (.aload_n 0, 1) := by decide +kernel
theorem dX12_wrong_15 : decode cX12_wrong 15 = .ok (.getfield 293, 3) := by decide +kernel
theorem dX12_wrong_18 : decode cX12_wrong 18 = .ok (.putfield 101, 3) := by decide +kernel
theorem dX12_wrong_21 : decode cX12_wrong 21 = .ok (.return_, 1) := by decide +kernel
theorem dX12_isGood_0 : decode cX12_isGood 0 = .ok (.aload_n 0, 1) := by decide +kernel
theorem dX12_isGood_1 : decode cX12_isGood 1 = .ok (.getfield 326, 3) := by decide +kernel
theorem dX12_isGood_4 : decode cX12_isGood 4 = .ok (.ifCond .ne 7, 3) := by decide +kernel
theorem dX12_isGood_7 : decode cX12_isGood 7 = .ok (.iconst 1, 1) := by decide +kernel
theorem dX12_isGood_8 : decode cX12_isGood 8 = .ok (.goto 4, 3) := by decide +kernel
theorem dX12_isGood_11 : decode cX12_isGood 11 = .ok (.iconst 0, 1) := by decide +kernel
theorem dX12_isGood_12 : decode cX12_isGood 12 = .ok (.ireturn, 1) := by decide +kernel
theorem dX12_isSign_0 : decode cX12_isSign 0 = .ok (.aload_n 0, 1) := by decide +kernel
theorem dX12_isSign_1 : decode cX12_isSign 1 = .ok (.getfield 306, 3) := by decide +kernel
theorem dX12_isSign_4 : decode cX12_isSign 4 = .ok (.iconst 3, 1) := by decide +kernel
theorem dX12_isSign_5 : decode cX12_isSign 5 = .ok (.if_icmp .ne 15, 3) := by decide +kernel
theorem dX12_isSign_8 : decode cX12_isSign 8 = .ok (.aload_n 0, 1) := by decide +kernel
theorem dX12_isSign_9 : decode cX12_isSign 9 = .ok (.getfield 303, 3) := by decide +kernel
theorem dX12_isSign_12 : decode cX12_isSign 12 = .ok (.iload_n 1, 1) := by decide +kernel
theorem dX12_isSign_13 : decode cX12_isSign 13 = .ok (.if_icmp .ne 7, 3) := by decide +kernel
theorem dX12_isSign_16 : decode cX12_isSign 16 = .ok (.iconst 1, 1) := by decide +kernel
theorem dX12_isSign_17 : decode cX12_isSign 17 = .ok (.goto 4, 3) := by decide +kernel
theorem dX12_isSign_20 : decode cX12_isSign 20 = .ok (.iconst 0, 1) := by decide +kernel
theorem dX12_isSign_21 : decode cX12_isSign 21 = .ok (.ireturn, 1) := by decide +kernel
theorem dX12_puts_0 : decode cX12_puts 0 = .ok (.aload_n 0, 1) := by decide +kernel
theorem dX12_puts_1 : decode cX12_puts 1 = .ok (.getfield 147, 3) := by decide +kernel
theorem dX12_puts_4 : decode cX12_puts 4 = .ok (.aload_n 0, 1) := by decide +kernel
theorem dX12_puts_5 : decode cX12_puts 5 = .ok (.getfield 329, 3) := by decide +kernel
theorem dX12_puts_8 : decode cX12_puts 8 = .ok (.iload_n 1, 1) := by decide +kernel
theorem dX12_puts_9 : decode cX12_puts 9 = .ok (.iastore, 1) := by decide +kernel
theorem dX12_puts_10 : decode cX12_puts 10 = .ok (.aload_n 0, 1) := by decide +kernel
theorem dX12_puts_11 : decode cX12_puts 11 = .ok (.dup, 1) := by decide +kernel
theorem dX12_puts_12 : decode cX12_puts 12 = .ok (.getfield 329, 3) := by decide +kernel
theorem dX12_puts_15 : decode cX12_puts 15 = .ok (.iconst 1, 1) := by decide +kernel
theorem dX12_puts_16 : decode cX12_puts 16 = .ok (.iadd, 1) := by decide +kernel
theorem dX12_puts_17 : decode cX12_puts 17 = .ok (.putfield 329, 3) := by decide +kernel
theorem dX12_puts_20 : decode cX12_puts 20 = .ok (.return_, 1) := by decide +kernel
theorem dX12_strength_0 : decode cX12_strength 0 = .ok (.iload_n 0, 1) := by decide +kernel
theorem dX12_strength_1 : decode cX12_strength 1 = .ok (.bipush 12, 2) := by decide +kernel
theorem dX12_strength_3 : decode cX12_strength 3 = .ok (.if_icmp .ne 7, 3) := by decide +kernel
theorem dX12_strength_6 : decode cX12_strength 6 = .ok (.iconst 0, 1) := by decide +kernel
theorem dX12_strength_7 : decode cX12_strength 7 = .ok (.goto 64, 3) := by decide +kernel
theorem dX12_strength_10 : decode cX12_strength 10 = .ok (.iload_n 0, 1) := by decide +kernel
theorem dX12_strength_11 : decode cX12_strength 11 = .ok (.iconst 5, 1) := by decide +kernel
theorem dX12_strength_12 : decode cX12_strength 12 = .ok (.if_icmp .ne 7, 3) := by decide +kernel
theorem dX12_strength_15 : decode cX12_strength 15 = .ok (.iconst 1, 1) := by decide +kernel
theorem dX12_strength_16 : decode cX12_strength 16 = .ok (.goto 55, 3) := by decide +kernel
theorem dX12_strength_19 : decode cX12_strength 19 = .ok (.iload_n 0, 1) := by decide +kernel
theorem dX12_strength_20 : decode cX12_strength 20 = .ok (.iconst 4, 1) := by decide +kernel
theorem dX12_strength_21 : decode cX12_strength 21 = .ok (.if_icmp .ne 7, 3) := by decide +kernel
theorem dX12_strength_24 : decode cX12_strength 24 = .ok (.iconst 2, 1) := by decide +kernel
theorem dX12_strength_25 : decode cX12_strength 25 = .ok (.goto 46, 3) := by decide +kernel
theorem dX12_strength_28 : decode cX12_strength 28 = .ok (.iload_n 0, 1) := by decide +kernel
theorem dX12_strength_29 : decode cX12_strength 29 = .ok (.iconst 3, 1) := by decide +kernel
theorem dX12_strength_30 : decode cX12_strength 30 = .ok (.if_icmp .ne 7, 3) := by decide +kernel
theorem dX12_strength_33 : decode cX12_strength 33 = .ok (.iconst 3, 1) := by decide +kernel
theorem dX12_strength_34 : decode cX12_strength 34 = .ok (.goto 37, 3) := by decide +kernel
theorem dX12_strength_37 : decode cX12_strength 37 = .ok (.iload_n 0, 1) := by decide +kernel
theorem dX12_strength_38 : decode cX12_strength 38 = .ok (.bipush 6, 2) := by decide +kernel
theorem dX12_strength_40 : decode cX12_strength 40 = .ok (.if_icmp .eq 9, 3) := by decide +kernel
theorem dX12_strength_43 : decode cX12_strength 43 = .ok (.iload_n 0, 1) := by decide +kernel
theorem dX12_strength_44 : decode cX12_strength 44 = .ok (.bipush 7, 2) := by decide +kernel
theorem dX12_strength_46 : decode cX12_strength 46 = .ok (.if_icmp .ne 7, 3) := by decide +kernel
theorem dX12_strength_49 : decode cX12_strength 49 = .ok (.iconst 4, 1) := by decide +kernel
theorem dX12_strength_50 : decode cX12_strength 50 = .ok (.goto 21, 3) := by decide +kernel
theorem dX12_strength_53 : decode cX12_strength 53 = .ok (.iload_n 0, 1) := by decide +kernel
theorem dX12_strength_54 : decode cX12_strength 54 = .ok (.bipush 8, 2) := by decide +kernel
theorem dX12_strength_56 : decode cX12_strength 56 = .ok (.if_icmp .eq 9, 3) := by decide +kernel
theorem dX12_strength_59 : decode cX12_strength 59 = .ok (.iload_n 0, 1) := by decide +kernel
theorem dX12_strength_60 : decode cX12_strength 60 = .ok (.bipush 9, 2) := by decide +kernel
theorem dX12_strength_62 : decode cX12_strength 62 = .ok (.if_icmp .ne 7, 3) := by decide +kernel
theorem dX12_strength_65 : decode cX12_strength 65 = .ok (.iconst 5, 1) := by decide +kernel
theorem dX12_strength_66 : decode cX12_strength 66 = .ok (.goto 5, 3) := by decide +kernel
theorem dX12_strength_69 : decode cX12_strength 69 = .ok (.bipush 6, 2) := by decide +kernel
theorem dX12_strength_71 : decode cX12_strength 71 = .ok (.ireturn, 1) := by decide +kernel
theorem dX12_drops_0 : decode cX12_drops 0 = .ok (.aload_n 0, 1) := by decide +kernel
theorem dX12_drops_1 : decode cX12_drops 1 = .ok (.getfield 332, 3) := by decide +kernel
theorem dX12_drops_4 : decode cX12_drops 4 = .ok (.ifCond .le 63, 3) := by decide +kernel
theorem dX12_drops_7 : decode cX12_drops 7 = .ok (.aload_n 0, 1) := by decide +kernel
theorem dX12_drops_8 : decode cX12_drops 8 = .ok (.getfield 150, 3) := by decide +kernel
theorem dX12_drops_11 : decode cX12_drops 11 = .ok (.aload_n 0, 1) := by decide +kernel
theorem dX12_drops_12 : decode cX12_drops 12 = .ok (.getfield 332, 3) := by decide +kernel
theorem dX12_drops_15 : decode cX12_drops 15 = .ok (.iconst 1, 1) := by decide +kernel
theorem dX12_drops_16 : decode cX12_drops 16 = .ok (.isub, 1) := by decide +kernel
theorem dX12_drops_17 : decode cX12_drops 17 = .ok (.iaload, 1) := by decide +kernel
theorem dX12_drops_18 : decode cX12_drops 18 = .ok (.bipush 12, 2) := by decide +kernel
theorem dX12_drops_20 : decode cX12_drops 20 = .ok (.if_icmp .eq 47, 3) := by decide +kernel
theorem dX12_drops_23 : decode cX12_drops 23 = .ok (.aload_n 0, 1) := by decide +kernel
theorem dX12_drops_24 : decode cX12_drops 24 = .ok (.getfield 150, 3) := by decide +kernel
theorem dX12_drops_27 : decode cX12_drops 27 = .ok (.aload_n 0, 1) := by decide +kernel
theorem dX12_drops_28 : decode cX12_drops 28 = .ok (.getfield 332, 3) := by decide +kernel
theorem dX12_drops_31 : decode cX12_drops 31 = .ok (.iconst 1, 1) := by decide +kernel
theorem dX12_drops_32 : decode cX12_drops 32 = .ok (.isub, 1) := by decide +kernel
theorem dX12_drops_33 : decode cX12_drops 33 = .ok (.iaload, 1) := by decide +kernel
theorem dX12_drops_34 : decode cX12_drops 34 = .ok (.invokestatic 335, 3) := by decide +kernel
theorem dX12_drops_37 : decode cX12_drops 37 = .ok (.iload_n 1, 1) := by decide +kernel
theorem dX12_drops_38 : decode cX12_drops 38 = .ok (.if_icmp .lt 29, 3) := by decide +kernel
theorem dX12_drops_41 : decode cX12_drops 41 = .ok (.aload_n 0, 1) := by decide +kernel
theorem dX12_drops_42 : decode cX12_drops 42 = .ok (.dup, 1) := by decide +kernel
theorem dX12_drops_43 : decode cX12_drops 43 = .ok (.getfield 332, 3) := by decide +kernel
theorem dX12_drops_46 : decode cX12_drops 46 = .ok (.iconst 1, 1) := by decide +kernel
theorem dX12_drops_47 : decode cX12_drops 47 = .ok (.isub, 1) := by decide +kernel
theorem dX12_drops_48 : decode cX12_drops 48 = .ok (.putfield 332, 3) := by decide +kernel
theorem dX12_drops_51 : decode cX12_drops 51 = .ok (.aload_n 0, 1) := by decide +kernel
theorem dX12_drops_52 : decode cX12_drops 52 = .ok (.aload_n 0, 1) := by decide +kernel
theorem dX12_drops_53 : decode cX12_drops 53 = .ok (.getfield 150, 3) := by decide +kernel
theorem dX12_drops_56 : decode cX12_drops 56 = .ok (.aload_n 0, 1) := by decide +kernel
theorem dX12_drops_57 : decode cX12_drops 57 = .ok (.getfield 332, 3) := by decide +kernel
theorem dX12_drops_60 : decode cX12_drops 60 = .ok (.iaload, 1) := by decide +kernel
theorem dX12_drops_61 : decode cX12_drops 61 = .ok (.invokevirtual 338, 3) := by decide +kernel
theorem dX12_drops_64 : decode cX12_drops 64 = .ok (.goto (-64), 3) := by decide +kernel
theorem dX12_drops_67 : decode cX12_drops 67 = .ok (.return_, 1) := by decide +kernel
theorem dX12_waitsFor_0 : decode cX12_waitsFor 0 = .ok (.aload_n 0, 1) := by decide +kernel
theorem dX12_waitsFor_1 : decode cX12_waitsFor 1 = .ok (.getfield 150, 3) := by decide +kernel
theorem dX12_waitsFor_4 : decode cX12_waitsFor 4 = .ok (.aload_n 0, 1) := by decide +kernel
theorem dX12_waitsFor_5 : decode cX12_waitsFor 5 = .ok (.getfield 332, 3) := by decide +kernel
theorem dX12_waitsFor_8 : decode cX12_waitsFor 8 = .ok (.iload_n 1, 1) := by decide +kernel
theorem dX12_waitsFor_9 : decode cX12_waitsFor 9 = .ok (.iastore, 1) := by decide +kernel
theorem dX12_waitsFor_10 : decode cX12_waitsFor 10 = .ok (.aload_n 0, 1) := by decide +kernel
theorem dX12_waitsFor_11 : decode cX12_waitsFor 11 = .ok (.dup, 1) := by decide +kernel
theorem dX12_waitsFor_12 : decode cX12_waitsFor 12 = .ok (.getfield 332, 3) := by decide +kernel
theorem dX12_waitsFor_15 : decode cX12_waitsFor 15 = .ok (.iconst 1, 1) := by decide +kernel
theorem dX12_waitsFor_16 : decode cX12_waitsFor 16 = .ok (.iadd, 1) := by decide +kernel
theorem dX12_waitsFor_17 : decode cX12_waitsFor 17 = .ok (.putfield 332, 3) := by decide +kernel
theorem dX12_waitsFor_20 : decode cX12_waitsFor 20 = .ok (.return_, 1) := by decide +kernel
theorem dX12_part_0 : decode cX12_part 0 = .ok (.aload_n 0, 1) := by decide +kernel
theorem dX12_part_1 : decode cX12_part 1 = .ok (.invokevirtual 341, 3) := by decide +kernel
theorem dX12_part_4 : decode cX12_part 4 = .ok (.ifCond .ne 4, 3) := by decide +kernel
theorem dX12_part_7 : decode cX12_part 7 = .ok (.return_, 1) := by decide +kernel
theorem dX12_part_8 : decode cX12_part 8 = .ok (.aload_n 0, 1) := by decide +kernel
theorem dX12_part_9 : decode cX12_part 9 = .ok (.getfield 306, 3) := by decide +kernel
theorem dX12_part_12 : decode cX12_part 12 = .ok (.iconst 2, 1) := by decide +kernel
theorem dX12_part_13 : decode cX12_part 13 = .ok (.if_icmp .ne 33, 3) := by decide +kernel
theorem dX12_part_16 : decode cX12_part 16 = .ok (.aload_n 0, 1) := by decide +kernel
theorem dX12_part_17 : decode cX12_part 17 = .ok (.getfield 315, 3) := by decide +kernel
theorem dX12_part_20 : decode cX12_part 20 = .ok (.bipush 8, 2) := by decide +kernel
theorem dX12_part_22 : decode cX12_part 22 = .ok (.if_icmp .le 8, 3) := by decide +kernel
theorem dX12_part_25 : decode cX12_part 25 = .ok (.aload_n 0, 1) := by decide +kernel
theorem dX12_part_26 : decode cX12_part 26 = .ok (.iconst 2, 1) := by decide +kernel
theorem dX12_part_27 : decode cX12_part 27 = .ok (.invokevirtual 345, 3) := by decide +kernel
theorem dX12_part_30 : decode cX12_part 30 = .ok (.aload_n 0, 1) := by decide +kernel
theorem dX12_part_31 : decode cX12_part 31 = .ok (.iconst 1, 1) := by decide +kernel
theorem dX12_part_32 : decode cX12_part 32 = .ok (.invokevirtual 338, 3) := by decide +kernel
theorem dX12_part_35 : decode cX12_part 35 = .ok (.aload_n 0, 1) := by decide +kernel
theorem dX12_part_36 : decode cX12_part 36 = .ok (.aload_n 0, 1) := by decide +kernel
theorem dX12_part_37 : decode cX12_part 37 = .ok (.getfield 300, 3) := by decide +kernel
theorem dX12_part_40 : decode cX12_part 40 = .ok (.invokevirtual 338, 3) := by decide +kernel
theorem dX12_part_43 : decode cX12_part 43 = .ok (.goto 48, 3) := by decide +kernel
theorem dX12_part_46 : decode cX12_part 46 = .ok (.aload_n 0, 1) := by decide +kernel
theorem dX12_part_47 : decode cX12_part 47 = .ok (.getfield 306, 3) := by decide +kernel
theorem dX12_part_50 : decode cX12_part 50 = .ok (.iconst 1, 1) := by decide +kernel
theorem dX12_part_51 : decode cX12_part 51 = .ok (.if_icmp .ne 35, 3) := by decide +kernel
theorem dX12_part_54 : decode cX12_part 54 = .ok (.aload_n 0, 1) := by decide +kernel
theorem dX12_part_55 : decode cX12_part 55 = .ok (.invokevirtual 348, 3) := by decide +kernel
theorem dX12_part_58 : decode cX12_part 58 = .ok (.istore_n 1, 1) := by decide +kernel
theorem dX12_part_59 : decode cX12_part 59 = .ok (.iload_n 1, 1) := by decide +kernel
theorem dX12_part_60 : decode cX12_part 60 = .ok (.bipush 11, 2) := by decide +kernel
theorem dX12_part_62 : decode cX12_part 62 = .ok (.if_icmp .ge 8, 3) := by decide +kernel
theorem dX12_part_65 : decode cX12_part 65 = .ok (.aload_n 0, 1) := by decide +kernel
theorem dX12_part_66 : decode cX12_part 66 = .ok (.iconst 3, 1) := by decide +kernel
theorem dX12_part_67 : decode cX12_part 67 = .ok (.invokevirtual 345, 3) := by decide +kernel
theorem dX12_part_70 : decode cX12_part 70 = .ok (.aload_n 0, 1) := by decide +kernel
theorem dX12_part_71 : decode cX12_part 71 = .ok (.iconst 2, 1) := by decide +kernel
theorem dX12_part_72 : decode cX12_part 72 = .ok (.invokevirtual 338, 3) := by decide +kernel
theorem dX12_part_75 : decode cX12_part 75 = .ok (.aload_n 0, 1) := by decide +kernel
theorem dX12_part_76 : decode cX12_part 76 = .ok (.iload_n 1, 1) := by decide +kernel
theorem dX12_part_77 : decode cX12_part 77 = .ok (.bipush 11, 2) := by decide +kernel
theorem dX12_part_79 : decode cX12_part 79 = .ok (.isub, 1) := by decide +kernel
theorem dX12_part_80 : decode cX12_part 80 = .ok (.invokevirtual 338, 3) := by decide +kernel
theorem dX12_part_83 : decode cX12_part 83 = .ok (.goto 8, 3) := by decide +kernel
theorem dX12_part_86 : decode cX12_part 86 = .ok (.aload_n 0, 1) := by decide +kernel
theorem dX12_part_87 : decode cX12_part 87 = .ok (.iconst 1, 1) := by decide +kernel
theorem dX12_part_88 : decode cX12_part 88 = .ok (.invokevirtual 345, 3) := by decide +kernel
theorem dX12_part_91 : decode cX12_part 91 = .ok (.aload_n 0, 1) := by decide +kernel
theorem dX12_part_92 : decode cX12_part 92 = .ok (.invokevirtual 341, 3) := by decide +kernel
theorem dX12_part_95 : decode cX12_part 95 = .ok (.ifCond .eq 7, 3) := by decide +kernel
theorem dX12_part_98 : decode cX12_part 98 = .ok (.aload_n 0, 1) := by decide +kernel
theorem dX12_part_99 : decode cX12_part 99 = .ok (.invokevirtual 352, 3) := by decide +kernel
theorem dX12_part_102 : decode cX12_part 102 = .ok (.return_, 1) := by decide +kernel
theorem dX12_begins_0 : decode cX12_begins 0 = .ok (.aload_n 0, 1) := by decide +kernel
theorem dX12_begins_1 : decode cX12_begins 1 = .ok (.getfield 355, 3) := by decide +kernel
theorem dX12_begins_4 : decode cX12_begins 4 = .ok (.bipush 6, 2) := by decide +kernel
theorem dX12_begins_6 : decode cX12_begins 6 = .ok (.if_icmp .ge 24, 3) := by decide +kernel
theorem dX12_begins_9 : decode cX12_begins 9 = .ok (.aload_n 0, 1) := by decide +kernel
theorem dX12_begins_10 : decode cX12_begins 10 = .ok (.dup, 1) := by decide +kernel
theorem dX12_begins_11 : decode cX12_begins 11 = .ok (.getfield 355, 3) := by decide +kernel
theorem dX12_begins_14 : decode cX12_begins 14 = .ok (.iconst 1, 1) := by decide +kernel
theorem dX12_begins_15 : decode cX12_begins 15 = .ok (.iadd, 1) := by decide +kernel
theorem dX12_begins_16 : decode cX12_begins 16 = .ok (.putfield 355, 3) := by decide +kernel
theorem dX12_begins_19 : decode cX12_begins 19 = .ok (.aload_n 0, 1) := by decide +kernel
theorem dX12_begins_20 : decode cX12_begins 20 = .ok (.getfield 153, 3) := by decide +kernel
theorem dX12_begins_23 : decode cX12_begins 23 = .ok (.aload_n 0, 1) := by decide +kernel
theorem dX12_begins_24 : decode cX12_begins 24 = .ok (.getfield 355, 3) := by decide +kernel
theorem dX12_begins_27 : decode cX12_begins 27 = .ok (.iconst 0, 1) := by decide +kernel
theorem dX12_begins_28 : decode cX12_begins 28 = .ok (.bastore, 1) := by decide +kernel
theorem dX12_begins_29 : decode cX12_begins 29 = .ok (.return_, 1) := by decide +kernel
theorem dX12_begins_30 : decode cX12_begins 30 = .ok (.aload_n 0, 1) := by decide +kernel
theorem dX12_begins_31 : decode cX12_begins 31 = .ok (.aload_n 0, 1) := by decide +kernel
theorem dX12_begins_32 : decode cX12_begins 32 = .ok (.getfield 306, 3) := by decide +kernel
theorem dX12_begins_35 : decode cX12_begins 35 = .ok (.iconst 2, 1) := by decide +kernel
theorem dX12_begins_36 : decode cX12_begins 36 = .ok (.if_icmp .eq 20, 3) := by decide +kernel
theorem dX12_begins_39 : decode cX12_begins 39 = .ok (.aload_n 0, 1) := by decide +kernel
theorem dX12_begins_40 : decode cX12_begins 40 = .ok (.getfield 306, 3) := by decide +kernel
theorem dX12_begins_43 : decode cX12_begins 43 = .ok (.iconst 1, 1) := by decide +kernel
theorem dX12_begins_44 : decode cX12_begins 44 = .ok (.if_icmp .eq 12, 3) := by decide +kernel
theorem dX12_begins_47 : decode cX12_begins 47 = .ok (.aload_n 0, 1) := by decide +kernel
theorem dX12_begins_48 : decode cX12_begins 48 = .ok (.bipush 40, 2) := by decide +kernel
theorem dX12_begins_50 : decode cX12_begins 50 = .ok (.invokevirtual 358, 3) := by decide +kernel
theorem dX12_begins_53 : decode cX12_begins 53 = .ok (.ifCond .eq 7, 3) := by decide +kernel
theorem dX12_begins_56 : decode cX12_begins 56 = .ok (.iconst 2, 1) := by decide +kernel
theorem dX12_begins_57 : decode cX12_begins 57 = .ok (.goto 4, 3) := by decide +kernel
theorem dX12_begins_60 : decode cX12_begins 60 = .ok (.iconst 1, 1) := by decide +kernel
theorem dX12_begins_61 : decode cX12_begins 61 = .ok (.invokevirtual 345, 3) := by decide +kernel
theorem dX12_begins_64 : decode cX12_begins 64 = .ok (.return_, 1) := by decide +kernel
theorem dX12_operand_0 : decode cX12_operand 0 = .ok (.iload_n 1, 1) := by decide +kernel
theorem dX12_operand_1 : decode cX12_operand 1 = .ok (.istore_n 2, 1) := by decide +kernel
theorem dX12_operand_2 : decode cX12_operand 2 = .ok (.iconst 1, 1) := by decide +kernel
theorem dX12_operand_3 : decode cX12_operand 3 = .ok (.istore_n 3, 1) := by decide +kernel
theorem dX12_operand_4 : decode cX12_operand 4 = .ok (.iload_n 3, 1) := by decide +kernel
theorem dX12_operand_5 : decode cX12_operand 5 = .ok (.ifCond .eq 115, 3) := by decide +kernel
theorem dX12_operand_8 : decode cX12_operand 8 = .ok (.aload_n 0, 1) := by decide +kernel
theorem dX12_operand_9 : decode cX12_operand 9 = .ok (.invokevirtual 341, 3) := by decide +kernel
theorem dX12_operand_12 : decode cX12_operand 12 = .ok (.ifCond .eq 108, 3) := by decide +kernel
theorem dX12_operand_15 : decode cX12_operand 15 = .ok (.iconst 0, 1) := by decide +kernel
theorem dX12_operand_16 : decode cX12_operand 16 = .ok (.istore 4, 2) := by decide +kernel
theorem dX12_operand_18 : decode cX12_operand 18 = .ok (.aload_n 0, 1) := by decide +kernel
theorem dX12_operand_19 : decode cX12_operand 19 = .ok (.invokevirtual 341, 3) := by decide +kernel
theorem dX12_operand_22 : decode cX12_operand 22 = .ok (.ifCond .eq 53, 3) := by decide +kernel
theorem dX12_operand_25 : decode cX12_operand 25 = .ok (.iload_n 2, 1) := by decide +kernel
theorem dX12_operand_26 : decode cX12_operand 26 = .ok (.ifCond .eq 49, 3) := by decide +kernel
theorem dX12_operand_29 : decode cX12_operand 29 = .ok (.aload_n 0, 1) := by decide +kernel
theorem dX12_operand_30 : decode cX12_operand 30 = .ok (.invokevirtual 348, 3) := by decide +kernel
theorem dX12_operand_33 : decode cX12_operand 33 = .ok (.bipush 10, 2) := by decide +kernel
theorem dX12_operand_35 : decode cX12_operand 35 = .ok (.if_icmp .ne 40, 3) := by decide +kernel
theorem dX12_operand_38 : decode cX12_operand 38 = .ok (.iload 4, 2) := by decide +kernel
theorem dX12_operand_40 : decode cX12_operand 40 = .ok (.bipush 6, 2) := by decide +kernel
theorem dX12_operand_42 : decode cX12_operand 42 = .ok (.if_icmp .ne 8, 3) := by decide +kernel
theorem dX12_operand_45 : decode cX12_operand 45 = .ok (.aload_n 0, 1) := by decide +kernel
theorem dX12_operand_46 : decode cX12_operand 46 = .ok (.iconst 2, 1) := by decide +kernel
theorem dX12_operand_47 : decode cX12_operand 47 = .ok (.invokevirtual 345, 3) := by decide +kernel
theorem dX12_operand_50 : decode cX12_operand 50 = .ok (.iinc 4 1, 3) := by decide +kernel
theorem dX12_operand_53 : decode cX12_operand 53 = .ok (.aload_n 0, 1) := by decide +kernel
theorem dX12_operand_54 : decode cX12_operand 54 = .ok (.invokevirtual 341, 3) := by decide +kernel
theorem dX12_operand_57 : decode cX12_operand 57 = .ok (.ifCond .ne 6, 3) := by decide +kernel
theorem dX12_operand_60 : decode cX12_operand 60 = .ok (.goto (-42), 3) := by decide +kernel
theorem dX12_operand_63 : decode cX12_operand 63 = .ok (.aload_n 0, 1) := by decide +kernel
theorem dX12_operand_64 : decode cX12_operand 64 = .ok (.iconst 3, 1) := by decide +kernel
theorem dX12_operand_65 : decode cX12_operand 65 = .ok (.invokevirtual 361, 3) := by decide +kernel
theorem dX12_operand_68 : decode cX12_operand 68 = .ok (.aload_n 0, 1) := by decide +kernel
theorem dX12_operand_69 : decode cX12_operand 69 = .ok (.invokevirtual 352, 3) := by decide +kernel
theorem dX12_operand_72 : decode cX12_operand 72 = .ok (.goto (-54), 3) := by decide +kernel
theorem dX12_operand_75 : decode cX12_operand 75 = .ok (.aload_n 0, 1) := by decide +kernel
theorem dX12_operand_76 : decode cX12_operand 76 = .ok (.invokevirtual 341, 3) := by decide +kernel
theorem dX12_operand_79 : decode cX12_operand 79 = .ok (.ifCond .eq 16, 3) := by decide +kernel
theorem dX12_operand_82 : decode cX12_operand 82 = .ok (.aload_n 0, 1) := by decide +kernel
theorem dX12_operand_83 : decode cX12_operand 83 = .ok (.bipush 40, 2) := by decide +kernel
theorem dX12_operand_85 : decode cX12_operand 85 = .ok (.invokevirtual 358, 3) := by decide +kernel
theorem dX12_operand_88 : decode cX12_operand 88 = .ok (.ifCond .eq 7, 3) := by decide +kernel
theorem dX12_operand_91 : decode cX12_operand 91 = .ok (.iconst 1, 1) := by decide +kernel
theorem dX12_operand_92 : decode cX12_operand 92 = .ok (.goto 4, 3) := by decide +kernel
theorem dX12_operand_95 : decode cX12_operand 95 = .ok (.iconst 0, 1) := by decide +kernel
theorem dX12_operand_96 : decode cX12_operand 96 = .ok (.istore_n 3, 1) := by decide +kernel
theorem dX12_operand_97 : decode cX12_operand 97 = .ok (.iload_n 3, 1) := by decide +kernel
theorem dX12_operand_98 : decode cX12_operand 98 = .ok (.ifCond .eq 19, 3) := by decide +kernel
theorem dX12_operand_101 : decode cX12_operand 101 = .ok (.aload_n 0, 1) := by decide +kernel
theorem dX12_operand_102 : decode cX12_operand 102 = .ok (.bipush 12, 2) := by decide +kernel
theorem dX12_operand_104 : decode cX12_operand 104 = .ok (.invokevirtual 361, 3) := by decide +kernel
theorem dX12_operand_107 : decode cX12_operand 107 = .ok (.aload_n 0, 1) := by decide +kernel
theorem dX12_operand_108 : decode cX12_operand 108 = .ok (.invokevirtual 352, 3) := by decide +kernel
theorem dX12_operand_111 : decode cX12_operand 111 = .ok (.aload_n 0, 1) := by decide +kernel
theorem dX12_operand_112 : decode cX12_operand 112 = .ok (.invokevirtual 364, 3) := by decide +kernel
theorem dX12_operand_115 : decode cX12_operand 115 = .ok (.iconst 1, 1) := by decide +kernel
theorem dX12_operand_116 : decode cX12_operand 116 = .ok (.istore_n 2, 1) := by decide +kernel
theorem dX12_operand_117 : decode cX12_operand 117 = .ok (.goto (-113), 3) := by decide +kernel
theorem dX12_operand_120 : decode cX12_operand 120 = .ok (.aload_n 0, 1) := by decide +kernel
theorem dX12_operand_121 : decode cX12_operand 121 = .ok (.invokevirtual 367, 3) := by decide +kernel
theorem dX12_operand_124 : decode cX12_operand 124 = .ok (.return_, 1) := by decide +kernel
theorem dX12_expression_0 : decode cX12_expression 0 = .ok (.aload_n 0, 1) := by decide +kernel
theorem dX12_expression_1 : decode cX12_expression 1 = .ok (.getfield 329, 3) := by decide +kernel
theorem dX12_expression_4 : decode cX12_expression 4 = .ok (.istore_n 1, 1) := by decide +kernel
theorem dX12_expression_5 : decode cX12_expression 5 = .ok (.aload_n 0, 1) := by decide +kernel
theorem dX12_expression_6 : decode cX12_expression 6 = .ok (.iconst 0, 1) := by decide +kernel
theorem dX12_expression_7 : decode cX12_expression 7 = .ok (.putfield 332, 3) := by decide +kernel
theorem dX12_expression_10 : decode cX12_expression 10 = .ok (.aload_n 0, 1) := by decide +kernel
theorem dX12_expression_11 : decode cX12_expression 11 = .ok (.iconst 0, 1) := by decide +kernel
theorem dX12_expression_12 : decode cX12_expression 12 = .ok (.putfield 355, 3) := by decide +kernel
theorem dX12_expression_15 : decode cX12_expression 15 = .ok (.aload_n 0, 1) := by decide +kernel
theorem dX12_expression_16 : decode cX12_expression 16 = .ok (.invokevirtual 364, 3) := by decide +kernel
theorem dX12_expression_19 : decode cX12_expression 19 = .ok (.aload_n 0, 1) := by decide +kernel
theorem dX12_expression_20 : decode cX12_expression 20 = .ok (.iconst 1, 1) := by decide +kernel
theorem dX12_expression_21 : decode cX12_expression 21 = .ok (.invokevirtual 370, 3) := by decide +kernel
theorem dX12_expression_24 : decode cX12_expression 24 = .ok (.iconst 1, 1) := by decide +kernel
theorem dX12_expression_25 : decode cX12_expression 25 = .ok (.istore_n 2, 1) := by decide +kernel
theorem dX12_expression_26 : decode cX12_expression 26 = .ok (.iload_n 2, 1) := by decide +kernel
theorem dX12_expression_27 : decode cX12_expression 27 = .ok (.ifCond .eq 321, 3) := by decide +kernel
theorem dX12_expression_30 : decode cX12_expression 30 = .ok (.aload_n 0, 1) := by decide +kernel
theorem dX12_expression_31 : decode cX12_expression 31 = .ok (.invokevirtual 341, 3) := by decide +kernel
theorem dX12_expression_34 : decode cX12_expression 34 = .ok (.ifCond .eq 314, 3) := by decide +kernel
theorem dX12_expression_37 : decode cX12_expression 37 = .ok (.aload_n 0, 1) := by decide +kernel
theorem dX12_expression_38 : decode cX12_expression 38 = .ok (.invokevirtual 348, 3) := by decide +kernel
theorem dX12_expression_41 : decode cX12_expression 41 = .ok (.istore_n 3, 1) := by decide +kernel
theorem dX12_expression_42 : decode cX12_expression 42 = .ok (.iload_n 3, 1) := by decide +kernel
theorem dX12_expression_43 : decode cX12_expression 43 = .ok (.bipush 8, 2) := by decide +kernel
theorem dX12_expression_45 : decode cX12_expression 45 = .ok (.if_icmp .eq 9, 3) := by decide +kernel
theorem dX12_expression_48 : decode cX12_expression 48 = .ok (.iload_n 3, 1) := by decide +kernel
theorem dX12_expression_49 : decode cX12_expression 49 = .ok (.bipush 9, 2) := by decide +kernel
theorem dX12_expression_51 : decode cX12_expression 51 = .ok (.if_icmp .ne 55, 3) := by decide +kernel
theorem dX12_expression_54 : decode cX12_expression 54 = .ok (.aload_n 0, 1) := by decide +kernel
theorem dX12_expression_55 : decode cX12_expression 55 = .ok (.iload_n 3, 1) := by decide +kernel
theorem dX12_expression_56 : decode cX12_expression 56 = .ok (.bipush 8, 2) := by decide +kernel
theorem dX12_expression_58 : decode cX12_expression 58 = .ok (.if_icmp .ne 7, 3) := by decide +kernel
theorem dX12_expression_61 : decode cX12_expression 61 = .ok (.iconst 2, 1) := by decide +kernel
theorem dX12_expression_62 : decode cX12_expression 62 = .ok (.goto 4, 3) := by decide +kernel
theorem dX12_expression_65 : decode cX12_expression 65 = .ok (.iconst 1, 1) := by decide +kernel
theorem dX12_expression_66 : decode cX12_expression 66 = .ok (.invokevirtual 374, 3) := by decide +kernel
theorem dX12_expression_69 : decode cX12_expression 69 = .ok (.aload_n 0, 1) := by decide +kernel
theorem dX12_expression_70 : decode cX12_expression 70 = .ok (.iload_n 3, 1) := by decide +kernel
theorem dX12_expression_71 : decode cX12_expression 71 = .ok (.bipush 8, 2) := by decide +kernel
theorem dX12_expression_73 : decode cX12_expression 73 = .ok (.if_icmp .ne 7, 3) := by decide +kernel
theorem dX12_expression_76 : decode cX12_expression 76 = .ok (.iconst 4, 1) := by decide +kernel
theorem dX12_expression_77 : decode cX12_expression 77 = .ok (.goto 4, 3) := by decide +kernel
theorem dX12_expression_80 : decode cX12_expression 80 = .ok (.iconst 5, 1) := by decide +kernel
theorem dX12_expression_81 : decode cX12_expression 81 = .ok (.invokevirtual 361, 3) := by decide +kernel
theorem dX12_expression_84 : decode cX12_expression 84 = .ok (.aload_n 0, 1) := by decide +kernel
theorem dX12_expression_85 : decode cX12_expression 85 = .ok (.getfield 153, 3) := by decide +kernel
theorem dX12_expression_88 : decode cX12_expression 88 = .ok (.aload_n 0, 1) := by decide +kernel
theorem dX12_expression_89 : decode cX12_expression 89 = .ok (.getfield 355, 3) := by decide +kernel
theorem dX12_expression_92 : decode cX12_expression 92 = .ok (.iconst 0, 1) := by decide +kernel
theorem dX12_expression_93 : decode cX12_expression 93 = .ok (.bastore, 1) := by decide +kernel
theorem dX12_expression_94 : decode cX12_expression 94 = .ok (.aload_n 0, 1) := by decide +kernel
theorem dX12_expression_95 : decode cX12_expression 95 = .ok (.invokevirtual 352, 3) := by decide +kernel
theorem dX12_expression_98 : decode cX12_expression 98 = .ok (.aload_n 0, 1) := by decide +kernel
theorem dX12_expression_99 : decode cX12_expression 99 = .ok (.iconst 1, 1) := by decide +kernel
theorem dX12_expression_100 : decode cX12_expression 100 = .ok (.invokevirtual 370, 3) := by decide +kernel
theorem dX12_expression_103 : decode cX12_expression 103 = .ok (.goto 242, 3) := by decide +kernel
theorem dX12_expression_106 : decode cX12_expression 106 = .ok (.aload_n 0, 1) := by decide +kernel
theorem dX12_expression_107 : decode cX12_expression 107 = .ok (.bipush 60, 2) := by decide +kernel
theorem dX12_expression_109 : decode cX12_expression 109 = .ok (.invokevirtual 358, 3) := by decide +kernel
theorem dX12_expression_112 : decode cX12_expression 112 = .ok (.ifCond .ne 12, 3) := by decide +kernel
theorem dX12_expression_115 : decode cX12_expression 115 = .ok (.aload_n 0, 1) := by decide +kernel
theorem dX12_expression_116 : decode cX12_expression 116 = .ok (.bipush 61, 2) := by decide +kernel
theorem dX12_expression_118 : decode cX12_expression 118 = .ok (.invokevirtual 358, 3) := by decide +kernel
theorem dX12_expression_121 : decode cX12_expression 121 = .ok (.ifCond .eq 62, 3) := by decide +kernel
theorem dX12_expression_124 : decode cX12_expression 124 = .ok (.aload_n 0, 1) := by decide +kernel
theorem dX12_expression_125 : decode cX12_expression 125 = .ok (.getfield 153, 3) := by decide +kernel
theorem dX12_expression_128 : decode cX12_expression 128 = .ok (.aload_n 0, 1) := by decide +kernel
theorem dX12_expression_129 : decode cX12_expression 129 = .ok (.getfield 355, 3) := by decide +kernel
theorem dX12_expression_132 : decode cX12_expression 132 = .ok (.baload, 1) := by decide +kernel
theorem dX12_expression_133 : decode cX12_expression 133 = .ok (.ifCond .ne 50, 3) := by decide +kernel
theorem dX12_expression_136 : decode cX12_expression 136 = .ok (.aload_n 0, 1) := by decide +kernel
theorem dX12_expression_137 : decode cX12_expression 137 = .ok (.iconst 4, 1) := by decide +kernel
theorem dX12_expression_138 : decode cX12_expression 138 = .ok (.invokevirtual 374, 3) := by decide +kernel
theorem dX12_expression_141 : decode cX12_expression 141 = .ok (.aload_n 0, 1) := by decide +kernel
theorem dX12_expression_142 : decode cX12_expression 142 = .ok (.aload_n 0, 1) := by decide +kernel
theorem dX12_expression_143 : decode cX12_expression 143 = .ok (.bipush 60, 2) := by decide +kernel
theorem dX12_expression_145 : decode cX12_expression 145 = .ok (.invokevirtual 358, 3) := by decide +kernel
theorem dX12_expression_148 : decode cX12_expression 148 = .ok (.ifCond .eq 8, 3) := by decide +kernel
theorem dX12_expression_151 : decode cX12_expression 151 = .ok (.bipush 6, 2) := by decide +kernel
theorem dX12_expression_153 : decode cX12_expression 153 = .ok (.goto 5, 3) := by decide +kernel
theorem dX12_expression_156 : decode cX12_expression 156 = .ok (.bipush 7, 2) := by decide +kernel
theorem dX12_expression_158 : decode cX12_expression 158 = .ok (.invokevirtual 361, 3) := by decide +kernel
theorem dX12_expression_161 : decode cX12_expression 161 = .ok (.aload_n 0, 1) := by decide +kernel
theorem dX12_expression_162 : decode cX12_expression 162 = .ok (.getfield 153, 3) := by decide +kernel
theorem dX12_expression_165 : decode cX12_expression 165 = .ok (.aload_n 0, 1) := by decide +kernel
theorem dX12_expression_166 : decode cX12_expression 166 = .ok (.getfield 355, 3) := by decide +kernel
theorem dX12_expression_169 : decode cX12_expression 169 = .ok (.iconst 1, 1) := by decide +kernel
theorem dX12_expression_170 : decode cX12_expression 170 = .ok (.bastore, 1) := by decide +kernel
theorem dX12_expression_171 : decode cX12_expression 171 = .ok (.aload_n 0, 1) := by decide +kernel
theorem dX12_expression_172 : decode cX12_expression 172 = .ok (.invokevirtual 352, 3) := by decide +kernel
theorem dX12_expression_175 : decode cX12_expression 175 = .ok (.aload_n 0, 1) := by decide +kernel
theorem dX12_expression_176 : decode cX12_expression 176 = .ok (.iconst 0, 1) := by decide +kernel
theorem dX12_expression_177 : decode cX12_expression 177 = .ok (.invokevirtual 370, 3) := by decide +kernel
theorem dX12_expression_180 : decode cX12_expression 180 = .ok (.goto 165, 3) := by decide +kernel
theorem dX12_expression_183 : decode cX12_expression 183 = .ok (.aload_n 0, 1) := by decide +kernel
theorem dX12_expression_184 : decode cX12_expression 184 = .ok (.bipush 43, 2) := by decide +kernel
theorem dX12_expression_186 : decode cX12_expression 186 = .ok (.invokevirtual 358, 3) := by decide +kernel
theorem dX12_expression_189 : decode cX12_expression 189 = .ok (.ifCond .ne 12, 3) := by decide +kernel
theorem dX12_expression_192 : decode cX12_expression 192 = .ok (.aload_n 0, 1) := by decide +kernel
theorem dX12_expression_193 : decode cX12_expression 193 = .ok (.bipush 45, 2) := by decide +kernel
theorem dX12_expression_195 : decode cX12_expression 195 = .ok (.invokevirtual 358, 3) := by decide +kernel
theorem dX12_expression_198 : decode cX12_expression 198 = .ok (.ifCond .eq 40, 3) := by decide +kernel
theorem dX12_expression_201 : decode cX12_expression 201 = .ok (.aload_n 0, 1) := by decide +kernel
theorem dX12_expression_202 : decode cX12_expression 202 = .ok (.iconst 5, 1) := by decide +kernel
theorem dX12_expression_203 : decode cX12_expression 203 = .ok (.invokevirtual 374, 3) := by decide +kernel
theorem dX12_expression_206 : decode cX12_expression 206 = .ok (.aload_n 0, 1) := by decide +kernel
theorem dX12_expression_207 : decode cX12_expression 207 = .ok (.aload_n 0, 1) := by decide +kernel
theorem dX12_expression_208 : decode cX12_expression 208 = .ok (.bipush 43, 2) := by decide +kernel
theorem dX12_expression_210 : decode cX12_expression 210 = .ok (.invokevirtual 358, 3) := by decide +kernel
theorem dX12_expression_213 : decode cX12_expression 213 = .ok (.ifCond .eq 8, 3) := by decide +kernel
theorem dX12_expression_216 : decode cX12_expression 216 = .ok (.bipush 8, 2) := by decide +kernel
theorem dX12_expression_218 : decode cX12_expression 218 = .ok (.goto 5, 3) := by decide +kernel
theorem dX12_expression_221 : decode cX12_expression 221 = .ok (.bipush 9, 2) := by decide +kernel
theorem dX12_expression_223 : decode cX12_expression 223 = .ok (.invokevirtual 361, 3) := by decide +kernel
theorem dX12_expression_226 : decode cX12_expression 226 = .ok (.aload_n 0, 1) := by decide +kernel
theorem dX12_expression_227 : decode cX12_expression 227 = .ok (.invokevirtual 352, 3) := by decide +kernel
theorem dX12_expression_230 : decode cX12_expression 230 = .ok (.aload_n 0, 1) := by decide +kernel
theorem dX12_expression_231 : decode cX12_expression 231 = .ok (.iconst 0, 1) := by decide +kernel
theorem dX12_expression_232 : decode cX12_expression 232 = .ok (.invokevirtual 370, 3) := by decide +kernel
theorem dX12_expression_235 : decode cX12_expression 235 = .ok (.goto 110, 3) := by decide +kernel
theorem dX12_expression_238 : decode cX12_expression 238 = .ok (.aload_n 0, 1) := by decide +kernel
theorem dX12_expression_239 : decode cX12_expression 239 = .ok (.bipush 42, 2) := by decide +kernel
theorem dX12_expression_241 : decode cX12_expression 241 = .ok (.invokevirtual 358, 3) := by decide +kernel
theorem dX12_expression_244 : decode cX12_expression 244 = .ok (.ifCond .ne 12, 3) := by decide +kernel
theorem dX12_expression_247 : decode cX12_expression 247 = .ok (.aload_n 0, 1) := by decide +kernel
theorem dX12_expression_248 : decode cX12_expression 248 = .ok (.bipush 47, 2) := by decide +kernel
theorem dX12_expression_250 : decode cX12_expression 250 = .ok (.invokevirtual 358, 3) := by decide +kernel
theorem dX12_expression_253 : decode cX12_expression 253 = .ok (.ifCond .eq 41, 3) := by decide +kernel
theorem dX12_expression_256 : decode cX12_expression 256 = .ok (.aload_n 0, 1) := by decide +kernel
theorem dX12_expression_257 : decode cX12_expression 257 = .ok (.bipush 6, 2) := by decide +kernel
theorem dX12_expression_259 : decode cX12_expression 259 = .ok (.invokevirtual 374, 3) := by decide +kernel
theorem dX12_expression_262 : decode cX12_expression 262 = .ok (.aload_n 0, 1) := by decide +kernel
theorem dX12_expression_263 : decode cX12_expression 263 = .ok (.aload_n 0, 1) := by decide +kernel
theorem dX12_expression_264 : decode cX12_expression 264 = .ok (.bipush 42, 2) := by decide +kernel
theorem dX12_expression_266 : decode cX12_expression 266 = .ok (.invokevirtual 358, 3) := by decide +kernel
theorem dX12_expression_269 : decode cX12_expression 269 = .ok (.ifCond .eq 8, 3) := by decide +kernel
theorem dX12_expression_272 : decode cX12_expression 272 = .ok (.bipush 10, 2) := by decide +kernel
theorem dX12_expression_274 : decode cX12_expression 274 = .ok (.goto 5, 3) := by decide +kernel
theorem dX12_expression_277 : decode cX12_expression 277 = .ok (.bipush 11, 2) := by decide +kernel
theorem dX12_expression_279 : decode cX12_expression 279 = .ok (.invokevirtual 361, 3) := by decide +kernel
theorem dX12_expression_282 : decode cX12_expression 282 = .ok (.aload_n 0, 1) := by decide +kernel
theorem dX12_expression_283 : decode cX12_expression 283 = .ok (.invokevirtual 352, 3) := by decide +kernel
theorem dX12_expression_286 : decode cX12_expression 286 = .ok (.aload_n 0, 1) := by decide +kernel
theorem dX12_expression_287 : decode cX12_expression 287 = .ok (.iconst 0, 1) := by decide +kernel
theorem dX12_expression_288 : decode cX12_expression 288 = .ok (.invokevirtual 370, 3) := by decide +kernel
theorem dX12_expression_291 : decode cX12_expression 291 = .ok (.goto 54, 3) := by decide +kernel
theorem dX12_expression_294 : decode cX12_expression 294 = .ok (.aload_n 0, 1) := by decide +kernel
theorem dX12_expression_295 : decode cX12_expression 295 = .ok (.bipush 41, 2) := by decide +kernel
theorem dX12_expression_297 : decode cX12_expression 297 = .ok (.invokevirtual 358, 3) := by decide +kernel
theorem dX12_expression_300 : decode cX12_expression 300 = .ok (.ifCond .eq 43, 3) := by decide +kernel
theorem dX12_expression_303 : decode cX12_expression 303 = .ok (.aload_n 0, 1) := by decide +kernel
theorem dX12_expression_304 : decode cX12_expression 304 = .ok (.getfield 355, 3) := by decide +kernel
theorem dX12_expression_307 : decode cX12_expression 307 = .ok (.iconst 1, 1) := by decide +kernel
theorem dX12_expression_308 : decode cX12_expression 308 = .ok (.if_icmp .le 35, 3) := by decide +kernel
theorem dX12_expression_311 : decode cX12_expression 311 = .ok (.aload_n 0, 1) := by decide +kernel
theorem dX12_expression_312 : decode cX12_expression 312 = .ok (.iconst 0, 1) := by decide +kernel
theorem dX12_expression_313 : decode cX12_expression 313 = .ok (.invokevirtual 374, 3) := by decide +kernel
theorem dX12_expression_316 : decode cX12_expression 316 = .ok (.aload_n 0, 1) := by decide +kernel
theorem dX12_expression_317 : decode cX12_expression 317 = .ok (.dup, 1) := by decide +kernel
theorem dX12_expression_318 : decode cX12_expression 318 = .ok (.getfield 332, 3) := by decide +kernel
theorem dX12_expression_321 : decode cX12_expression 321 = .ok (.iconst 1, 1) := by decide +kernel
theorem dX12_expression_322 : decode cX12_expression 322 = .ok (.isub, 1) := by decide +kernel
theorem dX12_expression_323 : decode cX12_expression 323 = .ok (.putfield 332, 3) := by decide +kernel
theorem dX12_expression_326 : decode cX12_expression 326 = .ok (.aload_n 0, 1) := by decide +kernel
theorem dX12_expression_327 : decode cX12_expression 327 = .ok (.dup, 1) := by decide +kernel
theorem dX12_expression_328 : decode cX12_expression 328 = .ok (.getfield 355, 3) := by decide +kernel
theorem dX12_expression_331 : decode cX12_expression 331 = .ok (.iconst 1, 1) := by decide +kernel
theorem dX12_expression_332 : decode cX12_expression 332 = .ok (.isub, 1) := by decide +kernel
theorem dX12_expression_333 : decode cX12_expression 333 = .ok (.putfield 355, 3) := by decide +kernel
theorem dX12_expression_336 : decode cX12_expression 336 = .ok (.aload_n 0, 1) := by decide +kernel
theorem dX12_expression_337 : decode cX12_expression 337 = .ok (.invokevirtual 352, 3) := by decide +kernel
theorem dX12_expression_340 : decode cX12_expression 340 = .ok (.goto 5, 3) := by decide +kernel
theorem dX12_expression_343 : decode cX12_expression 343 = .ok (.iconst 0, 1) := by decide +kernel
theorem dX12_expression_344 : decode cX12_expression 344 = .ok (.istore_n 2, 1) := by decide +kernel
theorem dX12_expression_345 : decode cX12_expression 345 = .ok (.goto (-319), 3) := by decide +kernel
theorem dX12_expression_348 : decode cX12_expression 348 = .ok (.aload_n 0, 1) := by decide +kernel
theorem dX12_expression_349 : decode cX12_expression 349 = .ok (.invokevirtual 341, 3) := by decide +kernel
theorem dX12_expression_352 : decode cX12_expression 352 = .ok (.ifCond .eq 16, 3) := by decide +kernel
theorem dX12_expression_355 : decode cX12_expression 355 = .ok (.aload_n 0, 1) := by decide +kernel
theorem dX12_expression_356 : decode cX12_expression 356 = .ok (.getfield 355, 3) := by decide +kernel
theorem dX12_expression_359 : decode cX12_expression 359 = .ok (.iconst 1, 1) := by decide +kernel
theorem dX12_expression_360 : decode cX12_expression 360 = .ok (.if_icmp .le 8, 3) := by decide +kernel
theorem dX12_expression_363 : decode cX12_expression 363 = .ok (.aload_n 0, 1) := by decide +kernel
theorem dX12_expression_364 : decode cX12_expression 364 = .ok (.iconst 1, 1) := by decide +kernel
theorem dX12_expression_365 : decode cX12_expression 365 = .ok (.invokevirtual 345, 3) := by decide +kernel
theorem dX12_expression_368 : decode cX12_expression 368 = .ok (.aload_n 0, 1) := by decide +kernel
theorem dX12_expression_369 : decode cX12_expression 369 = .ok (.iconst 0, 1) := by decide +kernel
theorem dX12_expression_370 : decode cX12_expression 370 = .ok (.invokevirtual 374, 3) := by decide +kernel
theorem dX12_expression_373 : decode cX12_expression 373 = .ok (.aload_n 0, 1) := by decide +kernel
theorem dX12_expression_374 : decode cX12_expression 374 = .ok (.iconst 0, 1) := by decide +kernel
theorem dX12_expression_375 : decode cX12_expression 375 = .ok (.invokevirtual 338, 3) := by decide +kernel
theorem dX12_expression_378 : decode cX12_expression 378 = .ok (.iload_n 1, 1) := by decide +kernel
theorem dX12_expression_379 : decode cX12_expression 379 = .ok (.ireturn, 1) := by decide +kernel
theorem dX12_number_0 : decode cX12_number 0 = .ok (.aload_n 0, 1) := by decide +kernel
theorem dX12_number_1 : decode cX12_number 1 = .ok (.invokevirtual 341, 3) := by decide +kernel
theorem dX12_number_4 : decode cX12_number 4 = .ok (.ifCond .ne 5, 3) := by decide +kernel
theorem dX12_number_7 : decode cX12_number 7 = .ok (.iconst 0, 1) := by decide +kernel
theorem dX12_number_8 : decode cX12_number 8 = .ok (.ireturn, 1) := by decide +kernel
theorem dX12_number_9 : decode cX12_number 9 = .ok (.aload_n 0, 1) := by decide +kernel
theorem dX12_number_10 : decode cX12_number 10 = .ok (.getfield 306, 3) := by decide +kernel
theorem dX12_number_13 : decode cX12_number 13 = .ok (.iconst 2, 1) := by decide +kernel
theorem dX12_number_14 : decode cX12_number 14 = .ok (.if_icmp .eq 11, 3) := by decide +kernel
theorem dX12_number_17 : decode cX12_number 17 = .ok (.aload_n 0, 1) := by decide +kernel
theorem dX12_number_18 : decode cX12_number 18 = .ok (.iconst 1, 1) := by decide +kernel
theorem dX12_number_19 : decode cX12_number 19 = .ok (.invokevirtual 345, 3) := by decide +kernel
theorem dX12_number_22 : decode cX12_number 22 = .ok (.goto 41, 3) := by decide +kernel
theorem dX12_number_25 : decode cX12_number 25 = .ok (.aload_n 0, 1) := by decide +kernel
theorem dX12_number_26 : decode cX12_number 26 = .ok (.getfield 315, 3) := by decide +kernel
theorem dX12_number_29 : decode cX12_number 29 = .ok (.bipush 8, 2) := by decide +kernel
theorem dX12_number_31 : decode cX12_number 31 = .ok (.if_icmp .le 11, 3) := by decide +kernel
theorem dX12_number_34 : decode cX12_number 34 = .ok (.aload_n 0, 1) := by decide +kernel
theorem dX12_number_35 : decode cX12_number 35 = .ok (.iconst 2, 1) := by decide +kernel
theorem dX12_number_36 : decode cX12_number 36 = .ok (.invokevirtual 345, 3) := by decide +kernel
theorem dX12_number_39 : decode cX12_number 39 = .ok (.goto 24, 3) := by decide +kernel
theorem dX12_number_42 : decode cX12_number 42 = .ok (.aload_n 0, 1) := by decide +kernel
theorem dX12_number_43 : decode cX12_number 43 = .ok (.getfield 300, 3) := by decide +kernel
theorem dX12_number_46 : decode cX12_number 46 = .ok (.iload_n 1, 1) := by decide +kernel
theorem dX12_number_47 : decode cX12_number 47 = .ok (.if_icmp .lt 11, 3) := by decide +kernel
theorem dX12_number_50 : decode cX12_number 50 = .ok (.aload_n 0, 1) := by decide +kernel
theorem dX12_number_51 : decode cX12_number 51 = .ok (.getfield 300, 3) := by decide +kernel
theorem dX12_number_54 : decode cX12_number 54 = .ok (.iload_n 2, 1) := by decide +kernel
theorem dX12_number_55 : decode cX12_number 55 = .ok (.if_icmp .le 8, 3) := by decide +kernel
theorem dX12_number_58 : decode cX12_number 58 = .ok (.aload_n 0, 1) := by decide +kernel
theorem dX12_number_59 : decode cX12_number 59 = .ok (.iload_n 3, 1) := by decide +kernel
theorem dX12_number_60 : decode cX12_number 60 = .ok (.invokevirtual 345, 3) := by decide +kernel
theorem dX12_number_63 : decode cX12_number 63 = .ok (.aload_n 0, 1) := by decide +kernel
theorem dX12_number_64 : decode cX12_number 64 = .ok (.getfield 300, 3) := by decide +kernel
theorem dX12_number_67 : decode cX12_number 67 = .ok (.istore 4, 2) := by decide +kernel
theorem dX12_number_69 : decode cX12_number 69 = .ok (.aload_n 0, 1) := by decide +kernel
theorem dX12_number_70 : decode cX12_number 70 = .ok (.invokevirtual 341, 3) := by decide +kernel
theorem dX12_number_73 : decode cX12_number 73 = .ok (.ifCond .eq 7, 3) := by decide +kernel
theorem dX12_number_76 : decode cX12_number 76 = .ok (.aload_n 0, 1) := by decide +kernel
theorem dX12_number_77 : decode cX12_number 77 = .ok (.invokevirtual 352, 3) := by decide +kernel
theorem dX12_number_80 : decode cX12_number 80 = .ok (.iload 4, 2) := by decide +kernel
theorem dX12_number_82 : decode cX12_number 82 = .ok (.ireturn, 1) := by decide +kernel
theorem dX12_clause_0 : decode cX12_clause 0 = .ok (.aload_n 0, 1) := by decide +kernel
theorem dX12_clause_1 : decode cX12_clause 1 = .ok (.invokevirtual 348, 3) := by decide +kernel
theorem dX12_clause_4 : decode cX12_clause 4 = .ok (.istore_n 2, 1) := by decide +kernel
theorem dX12_clause_5 : decode cX12_clause 5 = .ok (.iload_n 2, 1) := by decide +kernel
theorem dX12_clause_6 : decode cX12_clause 6 = .ok (.ifCond .lt 9, 3) := by decide +kernel
theorem dX12_clause_9 : decode cX12_clause 9 = .ok (.iload_n 2, 1) := by decide +kernel
theorem dX12_clause_10 : decode cX12_clause 10 = .ok (.bipush 7, 2) := by decide +kernel
theorem dX12_clause_12 : decode cX12_clause 12 = .ok (.if_icmp .le 8, 3) := by decide +kernel
theorem dX12_clause_15 : decode cX12_clause 15 = .ok (.aload_n 0, 1) := by decide +kernel
theorem dX12_clause_16 : decode cX12_clause 16 = .ok (.iconst 1, 1) := by decide +kernel
theorem dX12_clause_17 : decode cX12_clause 17 = .ok (.invokevirtual 345, 3) := by decide +kernel
theorem dX12_clause_20 : decode cX12_clause 20 = .ok (.aload_n 0, 1) := by decide +kernel
theorem dX12_clause_21 : decode cX12_clause 21 = .ok (.getfield 377, 3) := by decide +kernel
theorem dX12_clause_24 : decode cX12_clause 24 = .ok (.bipush 16, 2) := by decide +kernel
theorem dX12_clause_26 : decode cX12_clause 26 = .ok (.if_icmp .ne 8, 3) := by decide +kernel
theorem dX12_clause_29 : decode cX12_clause 29 = .ok (.aload_n 0, 1) := by decide +kernel
theorem dX12_clause_30 : decode cX12_clause 30 = .ok (.iconst 2, 1) := by decide +kernel
theorem dX12_clause_31 : decode cX12_clause 31 = .ok (.invokevirtual 345, 3) := by decide +kernel
theorem dX12_clause_34 : decode cX12_clause 34 = .ok (.aload_n 0, 1) := by decide +kernel
theorem dX12_clause_35 : decode cX12_clause 35 = .ok (.invokevirtual 341, 3) := by decide +kernel
theorem dX12_clause_38 : decode cX12_clause 38 = .ok (.ifCond .ne 4, 3) := by decide +kernel
theorem dX12_clause_41 : decode cX12_clause 41 = .ok (.return_, 1) := by decide +kernel
theorem dX12_clause_42 : decode cX12_clause 42 = .ok (.aload_n 0, 1) := by decide +kernel
theorem dX12_clause_43 : decode cX12_clause 43 = .ok (.dup, 1) := by decide +kernel
theorem dX12_clause_44 : decode cX12_clause 44 = .ok (.getfield 377, 3) := by decide +kernel
theorem dX12_clause_47 : decode cX12_clause 47 = .ok (.iconst 1, 1) := by decide +kernel
theorem dX12_clause_48 : decode cX12_clause 48 = .ok (.iadd, 1) := by decide +kernel
theorem dX12_clause_49 : decode cX12_clause 49 = .ok (.putfield 377, 3) := by decide +kernel
theorem dX12_clause_52 : decode cX12_clause 52 = .ok (.aload_n 0, 1) := by decide +kernel
theorem dX12_clause_53 : decode cX12_clause 53 = .ok (.invokevirtual 352, 3) := by decide +kernel
theorem dX12_clause_56 : decode cX12_clause 56 = .ok (.iload_n 2, 1) := by decide +kernel
theorem dX12_clause_57 : decode cX12_clause 57 = .ok (.ifCond .ne 16, 3) := by decide +kernel
theorem dX12_clause_60 : decode cX12_clause 60 = .ok (.aload_n 0, 1) := by decide +kernel
theorem dX12_clause_61 : decode cX12_clause 61 = .ok (.getfield 138, 3) := by decide +kernel
theorem dX12_clause_64 : decode cX12_clause 64 = .ok (.iload_n 1, 1) := by decide +kernel
theorem dX12_clause_65 : decode cX12_clause 65 = .ok (.aload_n 0, 1) := by decide +kernel
theorem dX12_clause_66 : decode cX12_clause 66 = .ok (.invokevirtual 380, 3) := by decide +kernel
theorem dX12_clause_69 : decode cX12_clause 69 = .ok (.iastore, 1) := by decide +kernel
theorem dX12_clause_70 : decode cX12_clause 70 = .ok (.goto 155, 3) := by decide +kernel
theorem dX12_clause_73 : decode cX12_clause 73 = .ok (.iload_n 2, 1) := by decide +kernel
theorem dX12_clause_74 : decode cX12_clause 74 = .ok (.iconst 1, 1) := by decide +kernel
theorem dX12_clause_75 : decode cX12_clause 75 = .ok (.if_icmp .ne 11, 3) := by decide +kernel
theorem dX12_clause_78 : decode cX12_clause 78 = .ok (.aload_n 0, 1) := by decide +kernel
theorem dX12_clause_79 : decode cX12_clause 79 = .ok (.iload_n 1, 1) := by decide +kernel
theorem dX12_clause_80 : decode cX12_clause 80 = .ok (.invokevirtual 383, 3) := by decide +kernel
theorem dX12_clause_83 : decode cX12_clause 83 = .ok (.goto 142, 3) := by decide +kernel
theorem dX12_clause_86 : decode cX12_clause 86 = .ok (.iload_n 2, 1) := by decide +kernel
theorem dX12_clause_87 : decode cX12_clause 87 = .ok (.iconst 2, 1) := by decide +kernel
theorem dX12_clause_88 : decode cX12_clause 88 = .ok (.if_icmp .ne 21, 3) := by decide +kernel
theorem dX12_clause_91 : decode cX12_clause 91 = .ok (.aload_n 0, 1) := by decide +kernel
theorem dX12_clause_92 : decode cX12_clause 92 = .ok (.getfield 120, 3) := by decide +kernel
theorem dX12_clause_95 : decode cX12_clause 95 = .ok (.iload_n 1, 1) := by decide +kernel
theorem dX12_clause_96 : decode cX12_clause 96 = .ok (.aload_n 0, 1) := by decide +kernel
theorem dX12_clause_97 : decode cX12_clause 97 = .ok (.iconst 0, 1) := by decide +kernel
theorem dX12_clause_98 : decode cX12_clause 98 = .ok (.sipush 10000, 3) := by decide +kernel
theorem dX12_clause_101 : decode cX12_clause 101 = .ok (.iconst 2, 1) := by decide +kernel
theorem dX12_clause_102 : decode cX12_clause 102 = .ok (.invokevirtual 386, 3) := by decide +kernel
theorem dX12_clause_105 : decode cX12_clause 105 = .ok (.iastore, 1) := by decide +kernel
theorem dX12_clause_106 : decode cX12_clause 106 = .ok (.goto 119, 3) := by decide +kernel
theorem dX12_clause_109 : decode cX12_clause 109 = .ok (.iload_n 2, 1) := by decide +kernel
theorem dX12_clause_110 : decode cX12_clause 110 = .ok (.iconst 3, 1) := by decide +kernel
theorem dX12_clause_111 : decode cX12_clause 111 = .ok (.if_icmp .ne 21, 3) := by decide +kernel
theorem dX12_clause_114 : decode cX12_clause 114 = .ok (.aload_n 0, 1) := by decide +kernel
theorem dX12_clause_115 : decode cX12_clause 115 = .ok (.getfield 123, 3) := by decide +kernel
theorem dX12_clause_118 : decode cX12_clause 118 = .ok (.iload_n 1, 1) := by decide +kernel
theorem dX12_clause_119 : decode cX12_clause 119 = .ok (.aload_n 0, 1) := by decide +kernel
theorem dX12_clause_120 : decode cX12_clause 120 = .ok (.iconst 0, 1) := by decide +kernel
theorem dX12_clause_121 : decode cX12_clause 121 = .ok (.ldc_w 390, 3) := by decide +kernel
theorem dX12_clause_124 : decode cX12_clause 124 = .ok (.iconst 2, 1) := by decide +kernel
theorem dX12_clause_125 : decode cX12_clause 125 = .ok (.invokevirtual 386, 3) := by decide +kernel
theorem dX12_clause_128 : decode cX12_clause 128 = .ok (.iastore, 1) := by decide +kernel
theorem dX12_clause_129 : decode cX12_clause 129 = .ok (.goto 96, 3) := by decide +kernel
theorem dX12_clause_132 : decode cX12_clause 132 = .ok (.iload_n 2, 1) := by decide +kernel
theorem dX12_clause_133 : decode cX12_clause 133 = .ok (.iconst 4, 1) := by decide +kernel
theorem dX12_clause_134 : decode cX12_clause 134 = .ok (.if_icmp .ne 21, 3) := by decide +kernel
theorem dX12_clause_137 : decode cX12_clause 137 = .ok (.aload_n 0, 1) := by decide +kernel
theorem dX12_clause_138 : decode cX12_clause 138 = .ok (.getfield 126, 3) := by decide +kernel
theorem dX12_clause_141 : decode cX12_clause 141 = .ok (.iload_n 1, 1) := by decide +kernel
theorem dX12_clause_142 : decode cX12_clause 142 = .ok (.aload_n 0, 1) := by decide +kernel
theorem dX12_clause_143 : decode cX12_clause 143 = .ok (.iconst 0, 1) := by decide +kernel
theorem dX12_clause_144 : decode cX12_clause 144 = .ok (.ldc_w 390, 3) := by decide +kernel
theorem dX12_clause_147 : decode cX12_clause 147 = .ok (.iconst 2, 1) := by decide +kernel
theorem dX12_clause_148 : decode cX12_clause 148 = .ok (.invokevirtual 386, 3) := by decide +kernel
theorem dX12_clause_151 : decode cX12_clause 151 = .ok (.iastore, 1) := by decide +kernel
theorem dX12_clause_152 : decode cX12_clause 152 = .ok (.goto 73, 3) := by decide +kernel
theorem dX12_clause_155 : decode cX12_clause 155 = .ok (.iload_n 2, 1) := by decide +kernel
theorem dX12_clause_156 : decode cX12_clause 156 = .ok (.iconst 5, 1) := by decide +kernel
theorem dX12_clause_157 : decode cX12_clause 157 = .ok (.if_icmp .ne 21, 3) := by decide +kernel
theorem dX12_clause_160 : decode cX12_clause 160 = .ok (.aload_n 0, 1) := by decide +kernel
theorem dX12_clause_161 : decode cX12_clause 161 = .ok (.getfield 129, 3) := by decide +kernel
theorem dX12_clause_164 : decode cX12_clause 164 = .ok (.iload_n 1, 1) := by decide +kernel
theorem dX12_clause_165 : decode cX12_clause 165 = .ok (.aload_n 0, 1) := by decide +kernel
theorem dX12_clause_166 : decode cX12_clause 166 = .ok (.iconst 0, 1) := by decide +kernel
theorem dX12_clause_167 : decode cX12_clause 167 = .ok (.sipush 200, 3) := by decide +kernel
theorem dX12_clause_170 : decode cX12_clause 170 = .ok (.iconst 2, 1) := by decide +kernel
theorem dX12_clause_171 : decode cX12_clause 171 = .ok (.invokevirtual 386, 3) := by decide +kernel
theorem dX12_clause_174 : decode cX12_clause 174 = .ok (.iastore, 1) := by decide +kernel
theorem dX12_clause_175 : decode cX12_clause 175 = .ok (.goto 50, 3) := by decide +kernel
theorem dX12_clause_178 : decode cX12_clause 178 = .ok (.iload_n 2, 1) := by decide +kernel
theorem dX12_clause_179 : decode cX12_clause 179 = .ok (.bipush 6, 2) := by decide +kernel
theorem dX12_clause_181 : decode cX12_clause 181 = .ok (.if_icmp .ne 21, 3) := by decide +kernel
theorem dX12_clause_184 : decode cX12_clause 184 = .ok (.aload_n 0, 1) := by decide +kernel
theorem dX12_clause_185 : decode cX12_clause 185 = .ok (.getfield 132, 3) := by decide +kernel
theorem dX12_clause_188 : decode cX12_clause 188 = .ok (.iload_n 1, 1) := by decide +kernel
theorem dX12_clause_189 : decode cX12_clause 189 = .ok (.aload_n 0, 1) := by decide +kernel
theorem dX12_clause_190 : decode cX12_clause 190 = .ok (.iconst 0, 1) := by decide +kernel
theorem dX12_clause_191 : decode cX12_clause 191 = .ok (.ldc_w 390, 3) := by decide +kernel
theorem dX12_clause_194 : decode cX12_clause 194 = .ok (.iconst 2, 1) := by decide +kernel
theorem dX12_clause_195 : decode cX12_clause 195 = .ok (.invokevirtual 386, 3) := by decide +kernel
theorem dX12_clause_198 : decode cX12_clause 198 = .ok (.iastore, 1) := by decide +kernel
theorem dX12_clause_199 : decode cX12_clause 199 = .ok (.goto 26, 3) := by decide +kernel
theorem dX12_clause_202 : decode cX12_clause 202 = .ok (.aload_n 0, 1) := by decide +kernel
theorem dX12_clause_203 : decode cX12_clause 203 = .ok (.getfield 135, 3) := by decide +kernel
theorem dX12_clause_206 : decode cX12_clause 206 = .ok (.iload_n 1, 1) := by decide +kernel
theorem dX12_clause_207 : decode cX12_clause 207 = .ok (.dup2, 1) := by decide +kernel
theorem dX12_clause_208 : decode cX12_clause 208 = .ok (.iaload, 1) := by decide +kernel
theorem dX12_clause_209 : decode cX12_clause 209 = .ok (.iconst 1, 1) := by decide +kernel
theorem dX12_clause_210 : decode cX12_clause 210 = .ok (.aload_n 0, 1) := by decide +kernel
theorem dX12_clause_211 : decode cX12_clause 211 = .ok (.iconst 0, 1) := by decide +kernel
theorem dX12_clause_212 : decode cX12_clause 212 = .ok (.aload_n 0, 1) := by decide +kernel
theorem dX12_clause_213 : decode cX12_clause 213 = .ok (.getfield 211, 3) := by decide +kernel
theorem dX12_clause_216 : decode cX12_clause 216 = .ok (.iconst 1, 1) := by decide +kernel
theorem dX12_clause_217 : decode cX12_clause 217 = .ok (.isub, 1) := by decide +kernel
theorem dX12_clause_218 : decode cX12_clause 218 = .ok (.iconst 4, 1) := by decide +kernel
theorem dX12_clause_219 : decode cX12_clause 219 = .ok (.invokevirtual 386, 3) := by decide +kernel
theorem dX12_clause_222 : decode cX12_clause 222 = .ok (.ishl, 1) := by decide +kernel
theorem dX12_clause_223 : decode cX12_clause 223 = .ok (.ior, 1) := by decide +kernel
theorem dX12_clause_224 : decode cX12_clause 224 = .ok (.iastore, 1) := by decide +kernel
theorem dX12_clause_225 : decode cX12_clause 225 = .ok (.aload_n 0, 1) := by decide +kernel
theorem dX12_clause_226 : decode cX12_clause 226 = .ok (.invokevirtual 341, 3) := by decide +kernel
theorem dX12_clause_229 : decode cX12_clause 229 = .ok (.ifCond .ne 4, 3) := by decide +kernel
theorem dX12_clause_232 : decode cX12_clause 232 = .ok (.return_, 1) := by decide +kernel
theorem dX12_clause_233 : decode cX12_clause 233 = .ok (.aload_n 0, 1) := by decide +kernel
theorem dX12_clause_234 : decode cX12_clause 234 = .ok (.bipush 59, 2) := by decide +kernel
theorem dX12_clause_236 : decode cX12_clause 236 = .ok (.invokevirtual 358, 3) := by decide +kernel
theorem dX12_clause_239 : decode cX12_clause 239 = .ok (.ifCond .eq 10, 3) := by decide +kernel
theorem dX12_clause_242 : decode cX12_clause 242 = .ok (.aload_n 0, 1) := by decide +kernel
theorem dX12_clause_243 : decode cX12_clause 243 = .ok (.invokevirtual 352, 3) := by decide +kernel
theorem dX12_clause_246 : decode cX12_clause 246 = .ok (.goto 8, 3) := by decide +kernel
theorem dX12_clause_249 : decode cX12_clause 249 = .ok (.aload_n 0, 1) := by decide +kernel
theorem dX12_clause_250 : decode cX12_clause 250 = .ok (.iconst 1, 1) := by decide +kernel
theorem dX12_clause_251 : decode cX12_clause 251 = .ok (.invokevirtual 345, 3) := by decide +kernel
theorem dX12_clause_254 : decode cX12_clause 254 = .ok (.return_, 1) := by decide +kernel
theorem dX12_step_0 : decode cX12_step 0 = .ok (.bipush 16, 2) := by decide +kernel
theorem dX12_step_2 : decode cX12_step 2 = .ok (.iload_n 1, 1) := by decide +kernel
theorem dX12_step_3 : decode cX12_step 3 = .ok (.imul, 1) := by decide +kernel
theorem dX12_step_4 : decode cX12_step 4 = .ok (.aload_n 0, 1) := by decide +kernel
theorem dX12_step_5 : decode cX12_step 5 = .ok (.getfield 117, 3) := by decide +kernel
theorem dX12_step_8 : decode cX12_step 8 = .ok (.iload_n 1, 1) := by decide +kernel
theorem dX12_step_9 : decode cX12_step 9 = .ok (.iaload, 1) := by decide +kernel
theorem dX12_step_10 : decode cX12_step 10 = .ok (.iadd, 1) := by decide +kernel
theorem dX12_step_11 : decode cX12_step 11 = .ok (.istore_n 2, 1) := by decide +kernel
theorem dX12_step_12 : decode cX12_step 12 = .ok (.aload_n 0, 1) := by decide +kernel
theorem dX12_step_13 : decode cX12_step 13 = .ok (.getfield 117, 3) := by decide +kernel
theorem dX12_step_16 : decode cX12_step 16 = .ok (.iload_n 1, 1) := by decide +kernel
theorem dX12_step_17 : decode cX12_step 17 = .ok (.iaload, 1) := by decide +kernel
theorem dX12_step_18 : decode cX12_step 18 = .ok (.ifCond .ne 7, 3) := by decide +kernel
theorem dX12_step_21 : decode cX12_step 21 = .ok (.iconst 0, 1) := by decide +kernel
theorem dX12_step_22 : decode cX12_step 22 = .ok (.goto 11, 3) := by decide +kernel
theorem dX12_step_25 : decode cX12_step 25 = .ok (.aload_n 0, 1) := by decide +kernel
theorem dX12_step_26 : decode cX12_step 26 = .ok (.getfield 141, 3) := by decide +kernel
theorem dX12_step_29 : decode cX12_step 29 = .ok (.iload_n 2, 1) := by decide +kernel
theorem dX12_step_30 : decode cX12_step 30 = .ok (.iconst 1, 1) := by decide +kernel
theorem dX12_step_31 : decode cX12_step 31 = .ok (.isub, 1) := by decide +kernel
theorem dX12_step_32 : decode cX12_step 32 = .ok (.iaload, 1) := by decide +kernel
theorem dX12_step_33 : decode cX12_step 33 = .ok (.istore_n 3, 1) := by decide +kernel
theorem dX12_step_34 : decode cX12_step 34 = .ok (.aload_n 0, 1) := by decide +kernel
theorem dX12_step_35 : decode cX12_step 35 = .ok (.getfield 141, 3) := by decide +kernel
theorem dX12_step_38 : decode cX12_step 38 = .ok (.iload_n 2, 1) := by decide +kernel
theorem dX12_step_39 : decode cX12_step 39 = .ok (.aload_n 0, 1) := by decide +kernel
theorem dX12_step_40 : decode cX12_step 40 = .ok (.iload_n 3, 1) := by decide +kernel
theorem dX12_step_41 : decode cX12_step 41 = .ok (.iconst 1, 1) := by decide +kernel
theorem dX12_step_42 : decode cX12_step 42 = .ok (.iadd, 1) := by decide +kernel
theorem dX12_step_43 : decode cX12_step 43 = .ok (.ldc_w 390, 3) := by decide +kernel
theorem dX12_step_46 : decode cX12_step 46 = .ok (.iconst 2, 1) := by decide +kernel
theorem dX12_step_47 : decode cX12_step 47 = .ok (.invokevirtual 386, 3) := by decide +kernel
theorem dX12_step_50 : decode cX12_step 50 = .ok (.iastore, 1) := by decide +kernel
theorem dX12_step_51 : decode cX12_step 51 = .ok (.aload_n 0, 1) := by decide +kernel
theorem dX12_step_52 : decode cX12_step 52 = .ok (.getfield 144, 3) := by decide +kernel
theorem dX12_step_55 : decode cX12_step 55 = .ok (.iload_n 2, 1) := by decide +kernel
theorem dX12_step_56 : decode cX12_step 56 = .ok (.aload_n 0, 1) := by decide +kernel
theorem dX12_step_57 : decode cX12_step 57 = .ok (.iconst 0, 1) := by decide +kernel
theorem dX12_step_58 : decode cX12_step 58 = .ok (.sipush 10000, 3) := by decide +kernel
theorem dX12_step_61 : decode cX12_step 61 = .ok (.iconst 2, 1) := by decide +kernel
theorem dX12_step_62 : decode cX12_step 62 = .ok (.invokevirtual 386, 3) := by decide +kernel
theorem dX12_step_65 : decode cX12_step 65 = .ok (.iastore, 1) := by decide +kernel
theorem dX12_step_66 : decode cX12_step 66 = .ok (.aload_n 0, 1) := by decide +kernel
theorem dX12_step_67 : decode cX12_step 67 = .ok (.getfield 117, 3) := by decide +kernel
theorem dX12_step_70 : decode cX12_step 70 = .ok (.iload_n 1, 1) := by decide +kernel
theorem dX12_step_71 : decode cX12_step 71 = .ok (.dup2, 1) := by decide +kernel
theorem dX12_step_72 : decode cX12_step 72 = .ok (.iaload, 1) := by decide +kernel
theorem dX12_step_73 : decode cX12_step 73 = .ok (.iconst 1, 1) := by decide +kernel
theorem dX12_step_74 : decode cX12_step 74 = .ok (.iadd, 1) := by decide +kernel
theorem dX12_step_75 : decode cX12_step 75 = .ok (.iastore, 1) := by decide +kernel
theorem dX12_step_76 : decode cX12_step 76 = .ok (.return_, 1) := by decide +kernel
theorem dX12_reads_0 : decode cX12_reads 0 = .ok (.aload_n 0, 1) := by decide +kernel
theorem dX12_reads_1 : decode cX12_reads 1 = .ok (.iconst 0, 1) := by decide +kernel
theorem dX12_reads_2 : decode cX12_reads 2 = .ok (.putfield 276, 3) := by decide +kernel
theorem dX12_reads_5 : decode cX12_reads 5 = .ok (.aload_n 0, 1) := by decide +kernel
theorem dX12_reads_6 : decode cX12_reads 6 = .ok (.iload_n 2, 1) := by decide +kernel
theorem dX12_reads_7 : decode cX12_reads 7 = .ok (.putfield 283, 3) := by decide +kernel
theorem dX12_reads_10 : decode cX12_reads 10 = .ok (.aload_n 0, 1) := by decide +kernel
theorem dX12_reads_11 : decode cX12_reads 11 = .ok (.iconst 0, 1) := by decide +kernel
theorem dX12_reads_12 : decode cX12_reads 12 = .ok (.putfield 286, 3) := by decide +kernel
theorem dX12_reads_15 : decode cX12_reads 15 = .ok (.aload_n 0, 1) := by decide +kernel
theorem dX12_reads_16 : decode cX12_reads 16 = .ok (.sipush 1210, 3) := by decide +kernel
theorem dX12_reads_19 : decode cX12_reads 19 = .ok (.iload_n 1, 1) := by decide +kernel
theorem dX12_reads_20 : decode cX12_reads 20 = .ok (.imul, 1) := by decide +kernel
theorem dX12_reads_21 : decode cX12_reads 21 = .ok (.putfield 329, 3) := by decide +kernel
theorem dX12_reads_24 : decode cX12_reads 24 = .ok (.aload_n 0, 1) := by decide +kernel
theorem dX12_reads_25 : decode cX12_reads 25 = .ok (.iconst 0, 1) := by decide +kernel
theorem dX12_reads_26 : decode cX12_reads 26 = .ok (.putfield 377, 3) := by decide +kernel
theorem dX12_reads_29 : decode cX12_reads 29 = .ok (.aload_n 0, 1) := by decide +kernel
theorem dX12_reads_30 : decode cX12_reads 30 = .ok (.getfield 117, 3) := by decide +kernel
theorem dX12_reads_33 : decode cX12_reads 33 = .ok (.iload_n 1, 1) := by decide +kernel
theorem dX12_reads_34 : decode cX12_reads 34 = .ok (.iconst 0, 1) := by decide +kernel
theorem dX12_reads_35 : decode cX12_reads 35 = .ok (.iastore, 1) := by decide +kernel
theorem dX12_reads_36 : decode cX12_reads 36 = .ok (.aload_n 0, 1) := by decide +kernel
theorem dX12_reads_37 : decode cX12_reads 37 = .ok (.getfield 120, 3) := by decide +kernel
theorem dX12_reads_40 : decode cX12_reads 40 = .ok (.iload_n 1, 1) := by decide +kernel
theorem dX12_reads_41 : decode cX12_reads 41 = .ok (.iconst 0, 1) := by decide +kernel
theorem dX12_reads_42 : decode cX12_reads 42 = .ok (.iastore, 1) := by decide +kernel
theorem dX12_reads_43 : decode cX12_reads 43 = .ok (.aload_n 0, 1) := by decide +kernel
theorem dX12_reads_44 : decode cX12_reads 44 = .ok (.getfield 123, 3) := by decide +kernel
theorem dX12_reads_47 : decode cX12_reads 47 = .ok (.iload_n 1, 1) := by decide +kernel
theorem dX12_reads_48 : decode cX12_reads 48 = .ok (.iconst 0, 1) := by decide +kernel
theorem dX12_reads_49 : decode cX12_reads 49 = .ok (.iastore, 1) := by decide +kernel
theorem dX12_reads_50 : decode cX12_reads 50 = .ok (.aload_n 0, 1) := by decide +kernel
theorem dX12_reads_51 : decode cX12_reads 51 = .ok (.getfield 126, 3) := by decide +kernel
theorem dX12_reads_54 : decode cX12_reads 54 = .ok (.iload_n 1, 1) := by decide +kernel
theorem dX12_reads_55 : decode cX12_reads 55 = .ok (.iconst (-1), 1) := by decide +kernel
theorem dX12_reads_56 : decode cX12_reads 56 = .ok (.iastore, 1) := by decide +kernel
theorem dX12_reads_57 : decode cX12_reads 57 = .ok (.aload_n 0, 1) := by decide +kernel
theorem dX12_reads_58 : decode cX12_reads 58 = .ok (.getfield 129, 3) := by decide +kernel
theorem dX12_reads_61 : decode cX12_reads 61 = .ok (.iload_n 1, 1) := by decide +kernel
theorem dX12_reads_62 : decode cX12_reads 62 = .ok (.bipush 70, 2) := by decide +kernel
theorem dX12_reads_64 : decode cX12_reads 64 = .ok (.iastore, 1) := by decide +kernel
theorem dX12_reads_65 : decode cX12_reads 65 = .ok (.aload_n 0, 1) := by decide +kernel
theorem dX12_reads_66 : decode cX12_reads 66 = .ok (.getfield 132, 3) := by decide +kernel
theorem dX12_reads_69 : decode cX12_reads 69 = .ok (.iload_n 1, 1) := by decide +kernel
theorem dX12_reads_70 : decode cX12_reads 70 = .ok (.sipush 300, 3) := by decide +kernel
theorem dX12_reads_73 : decode cX12_reads 73 = .ok (.iastore, 1) := by decide +kernel
theorem dX12_reads_74 : decode cX12_reads 74 = .ok (.aload_n 0, 1) := by decide +kernel
theorem dX12_reads_75 : decode cX12_reads 75 = .ok (.getfield 135, 3) := by decide +kernel
theorem dX12_reads_78 : decode cX12_reads 78 = .ok (.iload_n 1, 1) := by decide +kernel
theorem dX12_reads_79 : decode cX12_reads 79 = .ok (.iconst 0, 1) := by decide +kernel
theorem dX12_reads_80 : decode cX12_reads 80 = .ok (.iastore, 1) := by decide +kernel
theorem dX12_reads_81 : decode cX12_reads 81 = .ok (.aload_n 0, 1) := by decide +kernel
theorem dX12_reads_82 : decode cX12_reads 82 = .ok (.getfield 138, 3) := by decide +kernel
theorem dX12_reads_85 : decode cX12_reads 85 = .ok (.iload_n 1, 1) := by decide +kernel
theorem dX12_reads_86 : decode cX12_reads 86 = .ok (.iconst (-1), 1) := by decide +kernel
theorem dX12_reads_87 : decode cX12_reads 87 = .ok (.iastore, 1) := by decide +kernel
theorem dX12_reads_88 : decode cX12_reads 88 = .ok (.aload_n 0, 1) := by decide +kernel
theorem dX12_reads_89 : decode cX12_reads 89 = .ok (.invokevirtual 352, 3) := by decide +kernel
theorem dX12_reads_92 : decode cX12_reads 92 = .ok (.aload_n 0, 1) := by decide +kernel
theorem dX12_reads_93 : decode cX12_reads 93 = .ok (.invokevirtual 341, 3) := by decide +kernel
theorem dX12_reads_96 : decode cX12_reads 96 = .ok (.ifCond .eq 18, 3) := by decide +kernel
theorem dX12_reads_99 : decode cX12_reads 99 = .ok (.aload_n 0, 1) := by decide +kernel
theorem dX12_reads_100 : decode cX12_reads 100 = .ok (.getfield 306, 3) := by decide +kernel
theorem dX12_reads_103 : decode cX12_reads 103 = .ok (.ifCond .eq 11, 3) := by decide +kernel
theorem dX12_reads_106 : decode cX12_reads 106 = .ok (.aload_n 0, 1) := by decide +kernel
theorem dX12_reads_107 : decode cX12_reads 107 = .ok (.iload_n 1, 1) := by decide +kernel
theorem dX12_reads_108 : decode cX12_reads 108 = .ok (.invokevirtual 391, 3) := by decide +kernel
theorem dX12_reads_111 : decode cX12_reads 111 = .ok (.goto (-19), 3) := by decide +kernel
theorem dX12_reads_114 : decode cX12_reads 114 = .ok (.return_, 1) := by decide +kernel
theorem dX12_law_0 : decode cX12_law 0 = .ok (.aload_n 0, 1) := by decide +kernel
theorem dX12_law_1 : decode cX12_law 1 = .ok (.iconst 0, 1) := by decide +kernel
theorem dX12_law_2 : decode cX12_law 2 = .ok (.putfield 208, 3) := by decide +kernel
theorem dX12_law_5 : decode cX12_law 5 = .ok (.aload_n 0, 1) := by decide +kernel
theorem dX12_law_6 : decode cX12_law 6 = .ok (.iload_n 1, 1) := by decide +kernel
theorem dX12_law_7 : decode cX12_law 7 = .ok (.invokevirtual 228, 3) := by decide +kernel
theorem dX12_law_10 : decode cX12_law 10 = .ok (.ifCond .eq 28, 3) := by decide +kernel
theorem dX12_law_13 : decode cX12_law 13 = .ok (.aload_n 0, 1) := by decide +kernel
theorem dX12_law_14 : decode cX12_law 14 = .ok (.iload_n 2, 1) := by decide +kernel
theorem dX12_law_15 : decode cX12_law 15 = .ok (.ifCond .lt 15, 3) := by decide +kernel
theorem dX12_law_18 : decode cX12_law 18 = .ok (.iload_n 2, 1) := by decide +kernel
theorem dX12_law_19 : decode cX12_law 19 = .ok (.aload_n 0, 1) := by decide +kernel
theorem dX12_law_20 : decode cX12_law 20 = .ok (.getfield 276, 3) := by decide +kernel
theorem dX12_law_23 : decode cX12_law 23 = .ok (.if_icmp .gt 7, 3) := by decide +kernel
theorem dX12_law_26 : decode cX12_law 26 = .ok (.iconst 1, 1) := by decide +kernel
theorem dX12_law_27 : decode cX12_law 27 = .ok (.goto 4, 3) := by decide +kernel
theorem dX12_law_30 : decode cX12_law 30 = .ok (.iconst 0, 1) := by decide +kernel
theorem dX12_law_31 : decode cX12_law 31 = .ok (.iconst 2, 1) := by decide +kernel
theorem dX12_law_32 : decode cX12_law 32 = .ok (.invokevirtual 214, 3) := by decide +kernel
theorem dX12_law_35 : decode cX12_law 35 = .ok (.ifCond .ne 5, 3) := by decide +kernel
theorem dX12_law_38 : decode cX12_law 38 = .ok (.iconst 0, 1) := by decide +kernel
theorem dX12_law_39 : decode cX12_law 39 = .ok (.ireturn, 1) := by decide +kernel
theorem dX12_law_40 : decode cX12_law 40 = .ok (.aload_n 0, 1) := by decide +kernel
theorem dX12_law_41 : decode cX12_law 41 = .ok (.iconst (-1), 1) := by decide +kernel
theorem dX12_law_42 : decode cX12_law 42 = .ok (.putfield 101, 3) := by decide +kernel
theorem dX12_law_45 : decode cX12_law 45 = .ok (.aload_n 0, 1) := by decide +kernel
theorem dX12_law_46 : decode cX12_law 46 = .ok (.iconst 0, 1) := by decide +kernel
theorem dX12_law_47 : decode cX12_law 47 = .ok (.putfield 326, 3) := by decide +kernel
theorem dX12_law_50 : decode cX12_law 50 = .ok (.aload_n 0, 1) := by decide +kernel
theorem dX12_law_51 : decode cX12_law 51 = .ok (.getfield 267, 3) := by decide +kernel
theorem dX12_law_54 : decode cX12_law 54 = .ok (.bipush 12, 2) := by decide +kernel
theorem dX12_law_56 : decode cX12_law 56 = .ok (.if_icmp .eq 10, 3) := by decide +kernel
theorem dX12_law_59 : decode cX12_law 59 = .ok (.iload_n 3, 1) := by decide +kernel
theorem dX12_law_60 : decode cX12_law 60 = .ok (.invokestatic 235, 3) := by decide +kernel
theorem dX12_law_63 : decode cX12_law 63 = .ok (.ifCond .ne 11, 3) := by decide +kernel
theorem dX12_law_66 : decode cX12_law 66 = .ok (.aload_n 0, 1) := by decide +kernel
theorem dX12_law_67 : decode cX12_law 67 = .ok (.iconst 0, 1) := by decide +kernel
theorem dX12_law_68 : decode cX12_law 68 = .ok (.putfield 276, 3) := by decide +kernel
theorem dX12_law_71 : decode cX12_law 71 = .ok (.bipush (-9), 2) := by decide +kernel
theorem dX12_law_73 : decode cX12_law 73 = .ok (.ireturn, 1) := by decide +kernel
theorem dX12_law_74 : decode cX12_law 74 = .ok (.aload_n 0, 1) := by decide +kernel
theorem dX12_law_75 : decode cX12_law 75 = .ok (.aload_n 0, 1) := by decide +kernel
theorem dX12_law_76 : decode cX12_law 76 = .ok (.getfield 267, 3) := by decide +kernel
theorem dX12_law_79 : decode cX12_law 79 = .ok (.iload_n 2, 1) := by decide +kernel
theorem dX12_law_80 : decode cX12_law 80 = .ok (.invokevirtual 394, 3) := by decide +kernel
theorem dX12_law_83 : decode cX12_law 83 = .ok (.aload_n 0, 1) := by decide +kernel
theorem dX12_law_84 : decode cX12_law 84 = .ok (.invokevirtual 341, 3) := by decide +kernel
theorem dX12_law_87 : decode cX12_law 87 = .ok (.ifCond .ne 10, 3) := by decide +kernel
theorem dX12_law_90 : decode cX12_law 90 = .ok (.iconst (-1), 1) := by decide +kernel
theorem dX12_law_91 : decode cX12_law 91 = .ok (.aload_n 0, 1) := by decide +kernel
theorem dX12_law_92 : decode cX12_law 92 = .ok (.getfield 326, 3) := by decide +kernel
theorem dX12_law_95 : decode cX12_law 95 = .ok (.isub, 1) := by decide +kernel
theorem dX12_law_96 : decode cX12_law 96 = .ok (.ireturn, 1) := by decide +kernel
theorem dX12_law_97 : decode cX12_law 97 = .ok (.aload_n 0, 1) := by decide +kernel
theorem dX12_law_98 : decode cX12_law 98 = .ok (.getfield 105, 3) := by decide +kernel
theorem dX12_law_101 : decode cX12_law 101 = .ok (.aload_n 0, 1) := by decide +kernel
theorem dX12_law_102 : decode cX12_law 102 = .ok (.getfield 267, 3) := by decide +kernel
theorem dX12_law_105 : decode cX12_law 105 = .ok (.iload_n 1, 1) := by decide +kernel
theorem dX12_law_106 : decode cX12_law 106 = .ok (.iastore, 1) := by decide +kernel
theorem dX12_law_107 : decode cX12_law 107 = .ok (.aload_n 0, 1) := by decide +kernel
theorem dX12_law_108 : decode cX12_law 108 = .ok (.getfield 108, 3) := by decide +kernel
theorem dX12_law_111 : decode cX12_law 111 = .ok (.aload_n 0, 1) := by decide +kernel
theorem dX12_law_112 : decode cX12_law 112 = .ok (.getfield 267, 3) := by decide +kernel
theorem dX12_law_115 : decode cX12_law 115 = .ok (.iload_n 3, 1) := by decide +kernel
theorem dX12_law_116 : decode cX12_law 116 = .ok (.iastore, 1) := by decide +kernel
theorem dX12_law_117 : decode cX12_law 117 = .ok (.aload_n 0, 1) := by decide +kernel
theorem dX12_law_118 : decode cX12_law 118 = .ok (.getfield 111, 3) := by decide +kernel
theorem dX12_law_121 : decode cX12_law 121 = .ok (.aload_n 0, 1) := by decide +kernel
theorem dX12_law_122 : decode cX12_law 122 = .ok (.getfield 267, 3) := by decide +kernel
theorem dX12_law_125 : decode cX12_law 125 = .ok (.aload_n 0, 1) := by decide +kernel
theorem dX12_law_126 : decode cX12_law 126 = .ok (.getfield 250, 3) := by decide +kernel
theorem dX12_law_129 : decode cX12_law 129 = .ok (.iastore, 1) := by decide +kernel
theorem dX12_law_130 : decode cX12_law 130 = .ok (.aload_n 0, 1) := by decide +kernel
theorem dX12_law_131 : decode cX12_law 131 = .ok (.getfield 114, 3) := by decide +kernel
theorem dX12_law_134 : decode cX12_law 134 = .ok (.aload_n 0, 1) := by decide +kernel
theorem dX12_law_135 : decode cX12_law 135 = .ok (.getfield 267, 3) := by decide +kernel
theorem dX12_law_138 : decode cX12_law 138 = .ok (.iconst (-1), 1) := by decide +kernel
theorem dX12_law_139 : decode cX12_law 139 = .ok (.iastore, 1) := by decide +kernel
theorem dX12_law_140 : decode cX12_law 140 = .ok (.aload_n 0, 1) := by decide +kernel
theorem dX12_law_141 : decode cX12_law 141 = .ok (.dup, 1) := by decide +kernel
theorem dX12_law_142 : decode cX12_law 142 = .ok (.getfield 267, 3) := by decide +kernel
theorem dX12_law_145 : decode cX12_law 145 = .ok (.iconst 1, 1) := by decide +kernel
theorem dX12_law_146 : decode cX12_law 146 = .ok (.iadd, 1) := by decide +kernel
theorem dX12_law_147 : decode cX12_law 147 = .ok (.putfield 267, 3) := by decide +kernel
theorem dX12_law_150 : decode cX12_law 150 = .ok (.aload_n 0, 1) := by decide +kernel
theorem dX12_law_151 : decode cX12_law 151 = .ok (.getfield 267, 3) := by decide +kernel
theorem dX12_law_154 : decode cX12_law 154 = .ok (.iconst 1, 1) := by decide +kernel
theorem dX12_law_155 : decode cX12_law 155 = .ok (.isub, 1) := by decide +kernel
theorem dX12_law_156 : decode cX12_law 156 = .ok (.ireturn, 1) := by decide +kernel
theorem dX12_fault_0 : decode cX12_fault 0 = .ok (.aload_n 0, 1) := by decide +kernel
theorem dX12_fault_1 : decode cX12_fault 1 = .ok (.iconst 0, 1) := by decide +kernel
theorem dX12_fault_2 : decode cX12_fault 2 = .ok (.putfield 208, 3) := by decide +kernel
theorem dX12_fault_5 : decode cX12_fault 5 = .ok (.aload_n 0, 1) := by decide +kernel
theorem dX12_fault_6 : decode cX12_fault 6 = .ok (.getfield 101, 3) := by decide +kernel
theorem dX12_fault_9 : decode cX12_fault 9 = .ok (.ireturn, 1) := by decide +kernel
theorem dX12_gathers_0 : decode cX12_gathers 0 = .ok (.aload_n 0, 1) := by decide +kernel
theorem dX12_gathers_1 : decode cX12_gathers 1 = .ok (.iload_n 1, 1) := by decide +kernel
theorem dX12_gathers_2 : decode cX12_gathers 2 = .ok (.putfield 398, 3) := by decide +kernel
theorem dX12_gathers_5 : decode cX12_gathers 5 = .ok (.iconst 0, 1) := by decide +kernel
theorem dX12_gathers_6 : decode cX12_gathers 6 = .ok (.istore_n 2, 1) := by decide +kernel
theorem dX12_gathers_7 : decode cX12_gathers 7 = .ok (.iload_n 2, 1) := by decide +kernel
theorem dX12_gathers_8 : decode cX12_gathers 8 = .ok (.bipush 30, 2) := by decide +kernel
theorem dX12_gathers_10 : decode cX12_gathers 10 = .ok (.if_icmp .ge 23, 3) := by decide +kernel
theorem dX12_gathers_13 : decode cX12_gathers 13 = .ok (.aload_n 0, 1) := by decide +kernel
theorem dX12_gathers_14 : decode cX12_gathers 14 = .ok (.getfield 156, 3) := by decide +kernel
theorem dX12_gathers_17 : decode cX12_gathers 17 = .ok (.iload_n 2, 1) := by decide +kernel
theorem dX12_gathers_18 : decode cX12_gathers 18 = .ok (.iconst (-1), 1) := by decide +kernel
theorem dX12_gathers_19 : decode cX12_gathers 19 = .ok (.iastore, 1) := by decide +kernel
theorem dX12_gathers_20 : decode cX12_gathers 20 = .ok (.aload_n 0, 1) := by decide +kernel
theorem dX12_gathers_21 : decode cX12_gathers 21 = .ok (.getfield 159, 3) := by decide +kernel
theorem dX12_gathers_24 : decode cX12_gathers 24 = .ok (.iload_n 2, 1) := by decide +kernel
theorem dX12_gathers_25 : decode cX12_gathers 25 = .ok (.iconst (-1), 1) := by decide +kernel
theorem dX12_gathers_26 : decode cX12_gathers 26 = .ok (.iastore, 1) := by decide +kernel
theorem dX12_gathers_27 : decode cX12_gathers 27 = .ok (.iinc 2 1, 3) := by decide +kernel
theorem dX12_gathers_30 : decode cX12_gathers 30 = .ok (.goto (-23), 3) := by decide +kernel
theorem dX12_gathers_33 : decode cX12_gathers 33 = .ok (.iconst 0, 1) := by decide +kernel
theorem dX12_gathers_34 : decode cX12_gathers 34 = .ok (.istore_n 2, 1) := by decide +kernel
theorem dX12_gathers_35 : decode cX12_gathers 35 = .ok (.iconst 0, 1) := by decide +kernel
theorem dX12_gathers_36 : decode cX12_gathers 36 = .ok (.istore_n 3, 1) := by decide +kernel
theorem dX12_gathers_37 : decode cX12_gathers 37 = .ok (.iload_n 3, 1) := by decide +kernel
theorem dX12_gathers_38 : decode cX12_gathers 38 = .ok (.bipush 30, 2) := by decide +kernel
theorem dX12_gathers_40 : decode cX12_gathers 40 = .ok (.if_icmp .ge 137, 3) := by decide +kernel
theorem dX12_gathers_43 : decode cX12_gathers 43 = .ok (.aload_n 0, 1) := by decide +kernel
theorem dX12_gathers_44 : decode cX12_gathers 44 = .ok (.getfield 162, 3) := by decide +kernel
theorem dX12_gathers_47 : decode cX12_gathers 47 = .ok (.iload_n 3, 1) := by decide +kernel
theorem dX12_gathers_48 : decode cX12_gathers 48 = .ok (.iload_n 2, 1) := by decide +kernel
theorem dX12_gathers_49 : decode cX12_gathers 49 = .ok (.iastore, 1) := by decide +kernel
theorem dX12_gathers_50 : decode cX12_gathers 50 = .ok (.iconst 0, 1) := by decide +kernel
theorem dX12_gathers_51 : decode cX12_gathers 51 = .ok (.istore 4, 2) := by decide +kernel
theorem dX12_gathers_53 : decode cX12_gathers 53 = .ok (.iload 4, 2) := by decide +kernel
theorem dX12_gathers_55 : decode cX12_gathers 55 = .ok (.aload_n 0, 1) := by decide +kernel
theorem dX12_gathers_56 : decode cX12_gathers 56 = .ok (.getfield 253, 3) := by decide +kernel
theorem dX12_gathers_59 : decode cX12_gathers 59 = .ok (.if_icmp .ge 112, 3) := by decide +kernel
theorem dX12_gathers_62 : decode cX12_gathers 62 = .ok (.iload_n 3, 1) := by decide +kernel
theorem dX12_gathers_63 : decode cX12_gathers 63 = .ok (.aload_n 0, 1) := by decide +kernel
theorem dX12_gathers_64 : decode cX12_gathers 64 = .ok (.getfield 218, 3) := by decide +kernel
theorem dX12_gathers_67 : decode cX12_gathers 67 = .ok (.if_icmp .ge 104, 3) := by decide +kernel
theorem dX12_gathers_70 : decode cX12_gathers 70 = .ok (.aload_n 0, 1) := by decide +kernel
theorem dX12_gathers_71 : decode cX12_gathers 71 = .ok (.getfield 62, 3) := by decide +kernel
theorem dX12_gathers_74 : decode cX12_gathers 74 = .ok (.iload 4, 2) := by decide +kernel
theorem dX12_gathers_76 : decode cX12_gathers 76 = .ok (.iaload, 1) := by decide +kernel
theorem dX12_gathers_77 : decode cX12_gathers 77 = .ok (.iload_n 3, 1) := by decide +kernel
theorem dX12_gathers_78 : decode cX12_gathers 78 = .ok (.if_icmp .ne 87, 3) := by decide +kernel
theorem dX12_gathers_81 : decode cX12_gathers 81 = .ok (.aload_n 0, 1) := by decide +kernel
theorem dX12_gathers_82 : decode cX12_gathers 82 = .ok (.getfield 56, 3) := by decide +kernel
theorem dX12_gathers_85 : decode cX12_gathers 85 = .ok (.iload 4, 2) := by decide +kernel
theorem dX12_gathers_87 : decode cX12_gathers 87 = .ok (.iaload, 1) := by decide +kernel
theorem dX12_gathers_88 : decode cX12_gathers 88 = .ok (.iconst 1, 1) := by decide +kernel
theorem dX12_gathers_89 : decode cX12_gathers 89 = .ok (.if_icmp .eq 13, 3) := by decide +kernel
theorem dX12_gathers_92 : decode cX12_gathers 92 = .ok (.aload_n 0, 1) := by decide +kernel
theorem dX12_gathers_93 : decode cX12_gathers 93 = .ok (.getfield 56, 3) := by decide +kernel
theorem dX12_gathers_96 : decode cX12_gathers 96 = .ok (.iload 4, 2) := by decide +kernel
theorem dX12_gathers_98 : decode cX12_gathers 98 = .ok (.iaload, 1) := by decide +kernel
theorem dX12_gathers_99 : decode cX12_gathers 99 = .ok (.ifCond .ne 66, 3) := by decide +kernel
theorem dX12_gathers_102 : decode cX12_gathers 102 = .ok (.aload_n 0, 1) := by decide +kernel
theorem dX12_gathers_103 : decode cX12_gathers 103 = .ok (.iload 4, 2) := by decide +kernel
theorem dX12_gathers_105 : decode cX12_gathers 105 = .ok (.iload_n 1, 1) := by decide +kernel
theorem dX12_gathers_106 : decode cX12_gathers 106 = .ok (.invokevirtual 260, 3) := by decide +kernel
theorem dX12_gathers_109 : decode cX12_gathers 109 = .ok (.ifCond .ne 6, 3) := by decide +kernel
theorem dX12_gathers_112 : decode cX12_gathers 112 = .ok (.goto 53, 3) := by decide +kernel
theorem dX12_gathers_115 : decode cX12_gathers 115 = .ok (.aload_n 0, 1) := by decide +kernel
theorem dX12_gathers_116 : decode cX12_gathers 116 = .ok (.getfield 56, 3) := by decide +kernel
theorem dX12_gathers_119 : decode cX12_gathers 119 = .ok (.iload 4, 2) := by decide +kernel
theorem dX12_gathers_121 : decode cX12_gathers 121 = .ok (.iaload, 1) := by decide +kernel
theorem dX12_gathers_122 : decode cX12_gathers 122 = .ok (.ifCond .ne 32, 3) := by decide +kernel
theorem dX12_gathers_125 : decode cX12_gathers 125 = .ok (.aload_n 0, 1) := by decide +kernel
theorem dX12_gathers_126 : decode cX12_gathers 126 = .ok (.getfield 156, 3) := by decide +kernel
theorem dX12_gathers_129 : decode cX12_gathers 129 = .ok (.iload_n 3, 1) := by decide +kernel
theorem dX12_gathers_130 : decode cX12_gathers 130 = .ok (.aload_n 0, 1) := by decide +kernel
theorem dX12_gathers_131 : decode cX12_gathers 131 = .ok (.getfield 68, 3) := by decide +kernel
theorem dX12_gathers_134 : decode cX12_gathers 134 = .ok (.iload 4, 2) := by decide +kernel
theorem dX12_gathers_136 : decode cX12_gathers 136 = .ok (.iaload, 1) := by decide +kernel
theorem dX12_gathers_137 : decode cX12_gathers 137 = .ok (.iastore, 1) := by decide +kernel
theorem dX12_gathers_138 : decode cX12_gathers 138 = .ok (.aload_n 0, 1) := by decide +kernel
theorem dX12_gathers_139 : decode cX12_gathers 139 = .ok (.getfield 159, 3) := by decide +kernel
theorem dX12_gathers_142 : decode cX12_gathers 142 = .ok (.iload_n 3, 1) := by decide +kernel
theorem dX12_gathers_143 : decode cX12_gathers 143 = .ok (.aload_n 0, 1) := by decide +kernel
theorem dX12_gathers_144 : decode cX12_gathers 144 = .ok (.getfield 71, 3) := by decide +kernel
theorem dX12_gathers_147 : decode cX12_gathers 147 = .ok (.iload 4, 2) := by decide +kernel
theorem dX12_gathers_149 : decode cX12_gathers 149 = .ok (.iaload, 1) := by decide +kernel
theorem dX12_gathers_150 : decode cX12_gathers 150 = .ok (.iastore, 1) := by decide +kernel
theorem dX12_gathers_151 : decode cX12_gathers 151 = .ok (.goto 14, 3) := by decide +kernel
theorem dX12_gathers_154 : decode cX12_gathers 154 = .ok (.aload_n 0, 1) := by decide +kernel
theorem dX12_gathers_155 : decode cX12_gathers 155 = .ok (.getfield 165, 3) := by decide +kernel
theorem dX12_gathers_158 : decode cX12_gathers 158 = .ok (.iload_n 2, 1) := by decide +kernel
theorem dX12_gathers_159 : decode cX12_gathers 159 = .ok (.iload 4, 2) := by decide +kernel
theorem dX12_gathers_161 : decode cX12_gathers 161 = .ok (.iastore, 1) := by decide +kernel
theorem dX12_gathers_162 : decode cX12_gathers 162 = .ok (.iinc 2 1, 3) := by decide +kernel
theorem dX12_gathers_165 : decode cX12_gathers 165 = .ok (.iinc 4 1, 3) := by decide +kernel
theorem dX12_gathers_168 : decode cX12_gathers 168 = .ok (.goto (-115), 3) := by decide +kernel
theorem dX12_gathers_171 : decode cX12_gathers 171 = .ok (.iinc 3 1, 3) := by decide +kernel
theorem dX12_gathers_174 : decode cX12_gathers 174 = .ok (.goto (-137), 3) := by decide +kernel
theorem dX12_gathers_177 : decode cX12_gathers 177 = .ok (.aload_n 0, 1) := by decide +kernel
theorem dX12_gathers_178 : decode cX12_gathers 178 = .ok (.getfield 162, 3) := by decide +kernel
theorem dX12_gathers_181 : decode cX12_gathers 181 = .ok (.bipush 30, 2) := by decide +kernel
theorem dX12_gathers_183 : decode cX12_gathers 183 = .ok (.iload_n 2, 1) := by decide +kernel
theorem dX12_gathers_184 : decode cX12_gathers 184 = .ok (.iastore, 1) := by decide +kernel
theorem dX12_gathers_185 : decode cX12_gathers 185 = .ok (.return_, 1) := by decide +kernel
theorem dX12_isDead_0 : decode cX12_isDead 0 = .ok (.aload_n 0, 1) := by decide +kernel
theorem dX12_isDead_1 : decode cX12_isDead 1 = .ok (.getfield 159, 3) := by decide +kernel
theorem dX12_isDead_4 : decode cX12_isDead 4 = .ok (.iload_n 1, 1) := by decide +kernel
theorem dX12_isDead_5 : decode cX12_isDead 5 = .ok (.iaload, 1) := by decide +kernel
theorem dX12_isDead_6 : decode cX12_isDead 6 = .ok (.iconst (-1), 1) := by decide +kernel
theorem dX12_isDead_7 : decode cX12_isDead 7 = .ok (.if_icmp .eq 17, 3) := by decide +kernel
theorem dX12_isDead_10 : decode cX12_isDead 10 = .ok (.aload_n 0, 1) := by decide +kernel
theorem dX12_isDead_11 : decode cX12_isDead 11 = .ok (.getfield 159, 3) := by decide +kernel
theorem dX12_isDead_14 : decode cX12_isDead 14 = .ok (.iload_n 1, 1) := by decide +kernel
theorem dX12_isDead_15 : decode cX12_isDead 15 = .ok (.iaload, 1) := by decide +kernel
theorem dX12_isDead_16 : decode cX12_isDead 16 = .ok (.iload_n 2, 1) := by decide +kernel
theorem dX12_isDead_17 : decode cX12_isDead 17 = .ok (.if_icmp .gt 7, 3) := by decide +kernel
theorem dX12_isDead_20 : decode cX12_isDead 20 = .ok (.iconst 1, 1) := by decide +kernel
theorem dX12_isDead_21 : decode cX12_isDead 21 = .ok (.goto 4, 3) := by decide +kernel
theorem dX12_isDead_24 : decode cX12_isDead 24 = .ok (.iconst 0, 1) := by decide +kernel
theorem dX12_isDead_25 : decode cX12_isDead 25 = .ok (.ireturn, 1) := by decide +kernel
theorem dX12_rateOf_0 : decode cX12_rateOf 0 = .ok (.iconst (-1), 1) := by decide +kernel
theorem dX12_rateOf_1 : decode cX12_rateOf 1 = .ok (.istore_n 3, 1) := by decide +kernel
theorem dX12_rateOf_2 : decode cX12_rateOf 2 = .ok (.iconst 0, 1) := by decide +kernel
theorem dX12_rateOf_3 : decode cX12_rateOf 3 = .ok (.istore 4, 2) := by decide +kernel
theorem dX12_rateOf_5 : decode cX12_rateOf 5 = .ok (.iload 4, 2) := by decide +kernel
theorem dX12_rateOf_7 : decode cX12_rateOf 7 = .ok (.aload_n 0, 1) := by decide +kernel
theorem dX12_rateOf_8 : decode cX12_rateOf 8 = .ok (.getfield 232, 3) := by decide +kernel
theorem dX12_rateOf_11 : decode cX12_rateOf 11 = .ok (.if_icmp .ge 55, 3) := by decide +kernel
theorem dX12_rateOf_14 : decode cX12_rateOf 14 = .ok (.aload_n 0, 1) := by decide +kernel
theorem dX12_rateOf_15 : decode cX12_rateOf 15 = .ok (.getfield 47, 3) := by decide +kernel
theorem dX12_rateOf_18 : decode cX12_rateOf 18 = .ok (.iload 4, 2) := by decide +kernel
theorem dX12_rateOf_20 : decode cX12_rateOf 20 = .ok (.iaload, 1) := by decide +kernel
theorem dX12_rateOf_21 : decode cX12_rateOf 21 = .ok (.iload_n 1, 1) := by decide +kernel
theorem dX12_rateOf_22 : decode cX12_rateOf 22 = .ok (.if_icmp .ne 38, 3) := by decide +kernel
theorem dX12_rateOf_25 : decode cX12_rateOf 25 = .ok (.aload_n 0, 1) := by decide +kernel
theorem dX12_rateOf_26 : decode cX12_rateOf 26 = .ok (.getfield 50, 3) := by decide +kernel
theorem dX12_rateOf_29 : decode cX12_rateOf 29 = .ok (.iload 4, 2) := by decide +kernel
theorem dX12_rateOf_31 : decode cX12_rateOf 31 = .ok (.iaload, 1) := by decide +kernel
theorem dX12_rateOf_32 : decode cX12_rateOf 32 = .ok (.iload_n 2, 1) := by decide +kernel
theorem dX12_rateOf_33 : decode cX12_rateOf 33 = .ok (.if_icmp .gt 27, 3) := by decide +kernel
theorem dX12_rateOf_36 : decode cX12_rateOf 36 = .ok (.iload_n 3, 1) := by decide +kernel
theorem dX12_rateOf_37 : decode cX12_rateOf 37 = .ok (.iconst (-1), 1) := by decide +kernel
theorem dX12_rateOf_38 : decode cX12_rateOf 38 = .ok (.if_icmp .eq 19, 3) := by decide +kernel
theorem dX12_rateOf_41 : decode cX12_rateOf 41 = .ok (.aload_n 0, 1) := by decide +kernel
theorem dX12_rateOf_42 : decode cX12_rateOf 42 = .ok (.getfield 50, 3) := by decide +kernel
theorem dX12_rateOf_45 : decode cX12_rateOf 45 = .ok (.iload 4, 2) := by decide +kernel
theorem dX12_rateOf_47 : decode cX12_rateOf 47 = .ok (.iaload, 1) := by decide +kernel
theorem dX12_rateOf_48 : decode cX12_rateOf 48 = .ok (.aload_n 0, 1) := by decide +kernel
theorem dX12_rateOf_49 : decode cX12_rateOf 49 = .ok (.getfield 50, 3) := by decide +kernel
theorem dX12_rateOf_52 : decode cX12_rateOf 52 = .ok (.iload_n 3, 1) := by decide +kernel
theorem dX12_rateOf_53 : decode cX12_rateOf 53 = .ok (.iaload, 1) := by decide +kernel
theorem dX12_rateOf_54 : decode cX12_rateOf 54 = .ok (.if_icmp .lt 6, 3) := by decide +kernel
theorem dX12_rateOf_57 : decode cX12_rateOf 57 = .ok (.iload 4, 2) := by decide +kernel
theorem dX12_rateOf_59 : decode cX12_rateOf 59 = .ok (.istore_n 3, 1) := by decide +kernel
theorem dX12_rateOf_60 : decode cX12_rateOf 60 = .ok (.iinc 4 1, 3) := by decide +kernel
theorem dX12_rateOf_63 : decode cX12_rateOf 63 = .ok (.goto (-58), 3) := by decide +kernel
theorem dX12_rateOf_66 : decode cX12_rateOf 66 = .ok (.iload_n 3, 1) := by decide +kernel
theorem dX12_rateOf_67 : decode cX12_rateOf 67 = .ok (.iconst (-1), 1) := by decide +kernel
theorem dX12_rateOf_68 : decode cX12_rateOf 68 = .ok (.if_icmp .ne 9, 3) := by decide +kernel
theorem dX12_rateOf_71 : decode cX12_rateOf 71 = .ok (.sipush 1000, 3) := by decide +kernel
theorem dX12_rateOf_74 : decode cX12_rateOf 74 = .ok (.goto 9, 3) := by decide +kernel
theorem dX12_rateOf_77 : decode cX12_rateOf 77 = .ok (.aload_n 0, 1) := by decide +kernel
theorem dX12_rateOf_78 : decode cX12_rateOf 78 = .ok (.getfield 53, 3) := by decide +kernel
theorem dX12_rateOf_81 : decode cX12_rateOf 81 = .ok (.iload_n 3, 1) := by decide +kernel
theorem dX12_rateOf_82 : decode cX12_rateOf 82 = .ok (.iaload, 1) := by decide +kernel
theorem dX12_rateOf_83 : decode cX12_rateOf 83 = .ok (.ireturn, 1) := by decide +kernel
theorem dX12_lawOf_0 : decode cX12_lawOf 0 = .ok (.iconst (-1), 1) := by decide +kernel
theorem dX12_lawOf_1 : decode cX12_lawOf 1 = .ok (.istore_n 3, 1) := by decide +kernel
theorem dX12_lawOf_2 : decode cX12_lawOf 2 = .ok (.iconst 0, 1) := by decide +kernel
theorem dX12_lawOf_3 : decode cX12_lawOf 3 = .ok (.istore 4, 2) := by decide +kernel
theorem dX12_lawOf_5 : decode cX12_lawOf 5 = .ok (.iload 4, 2) := by decide +kernel
theorem dX12_lawOf_7 : decode cX12_lawOf 7 = .ok (.aload_n 0, 1) := by decide +kernel
theorem dX12_lawOf_8 : decode cX12_lawOf 8 = .ok (.getfield 267, 3) := by decide +kernel
theorem dX12_lawOf_11 : decode cX12_lawOf 11 = .ok (.if_icmp .ge 106, 3) := by decide +kernel
theorem dX12_lawOf_14 : decode cX12_lawOf 14 = .ok (.aload_n 0, 1) := by decide +kernel
theorem dX12_lawOf_15 : decode cX12_lawOf 15 = .ok (.getfield 105, 3) := by decide +kernel
theorem dX12_lawOf_18 : decode cX12_lawOf 18 = .ok (.iload 4, 2) := by decide +kernel
theorem dX12_lawOf_20 : decode cX12_lawOf 20 = .ok (.iaload, 1) := by decide +kernel
theorem dX12_lawOf_21 : decode cX12_lawOf 21 = .ok (.iload_n 1, 1) := by decide +kernel
theorem dX12_lawOf_22 : decode cX12_lawOf 22 = .ok (.if_icmp .ne 57, 3) := by decide +kernel
theorem dX12_lawOf_25 : decode cX12_lawOf 25 = .ok (.aload_n 0, 1) := by decide +kernel
theorem dX12_lawOf_26 : decode cX12_lawOf 26 = .ok (.getfield 108, 3) := by decide +kernel
theorem dX12_lawOf_29 : decode cX12_lawOf 29 = .ok (.iload 4, 2) := by decide +kernel
theorem dX12_lawOf_31 : decode cX12_lawOf 31 = .ok (.iaload, 1) := by decide +kernel
theorem dX12_lawOf_32 : decode cX12_lawOf 32 = .ok (.iload_n 2, 1) := by decide +kernel
theorem dX12_lawOf_33 : decode cX12_lawOf 33 = .ok (.if_icmp .gt 46, 3) := by decide +kernel
theorem dX12_lawOf_36 : decode cX12_lawOf 36 = .ok (.aload_n 0, 1) := by decide +kernel
theorem dX12_lawOf_37 : decode cX12_lawOf 37 = .ok (.getfield 111, 3) := by decide +kernel
theorem dX12_lawOf_40 : decode cX12_lawOf 40 = .ok (.iload 4, 2) := by decide +kernel
theorem dX12_lawOf_42 : decode cX12_lawOf 42 = .ok (.iaload, 1) := by decide +kernel
theorem dX12_lawOf_43 : decode cX12_lawOf 43 = .ok (.aload_n 0, 1) := by decide +kernel
theorem dX12_lawOf_44 : decode cX12_lawOf 44 = .ok (.getfield 398, 3) := by decide +kernel
theorem dX12_lawOf_47 : decode cX12_lawOf 47 = .ok (.if_icmp .gt 32, 3) := by decide +kernel
theorem dX12_lawOf_50 : decode cX12_lawOf 50 = .ok (.aload_n 0, 1) := by decide +kernel
theorem dX12_lawOf_51 : decode cX12_lawOf 51 = .ok (.getfield 114, 3) := by decide +kernel
theorem dX12_lawOf_54 : decode cX12_lawOf 54 = .ok (.iload 4, 2) := by decide +kernel
theorem dX12_lawOf_56 : decode cX12_lawOf 56 = .ok (.iaload, 1) := by decide +kernel
theorem dX12_lawOf_57 : decode cX12_lawOf 57 = .ok (.iconst (-1), 1) := by decide +kernel
theorem dX12_lawOf_58 : decode cX12_lawOf 58 = .ok (.if_icmp .eq 17, 3) := by decide +kernel
theorem dX12_lawOf_61 : decode cX12_lawOf 61 = .ok (.aload_n 0, 1) := by decide +kernel
theorem dX12_lawOf_62 : decode cX12_lawOf 62 = .ok (.getfield 114, 3) := by decide +kernel
theorem dX12_lawOf_65 : decode cX12_lawOf 65 = .ok (.iload 4, 2) := by decide +kernel
theorem dX12_lawOf_67 : decode cX12_lawOf 67 = .ok (.iaload, 1) := by decide +kernel
theorem dX12_lawOf_68 : decode cX12_lawOf 68 = .ok (.aload_n 0, 1) := by decide +kernel
theorem dX12_lawOf_69 : decode cX12_lawOf 69 = .ok (.getfield 398, 3) := by decide +kernel
theorem dX12_lawOf_72 : decode cX12_lawOf 72 = .ok (.if_icmp .le 7, 3) := by decide +kernel
theorem dX12_lawOf_75 : decode cX12_lawOf 75 = .ok (.iconst 1, 1) := by decide +kernel
theorem dX12_lawOf_76 : decode cX12_lawOf 76 = .ok (.goto 4, 3) := by decide +kernel
theorem dX12_lawOf_79 : decode cX12_lawOf 79 = .ok (.iconst 0, 1) := by decide +kernel
theorem dX12_lawOf_80 : decode cX12_lawOf 80 = .ok (.istore 5, 2) := by decide +kernel
theorem dX12_lawOf_82 : decode cX12_lawOf 82 = .ok (.iload 5, 2) := by decide +kernel
theorem dX12_lawOf_84 : decode cX12_lawOf 84 = .ok (.ifCond .eq 27, 3) := by decide +kernel
theorem dX12_lawOf_87 : decode cX12_lawOf 87 = .ok (.iload_n 3, 1) := by decide +kernel
theorem dX12_lawOf_88 : decode cX12_lawOf 88 = .ok (.iconst (-1), 1) := by decide +kernel
theorem dX12_lawOf_89 : decode cX12_lawOf 89 = .ok (.if_icmp .eq 19, 3) := by decide +kernel
theorem dX12_lawOf_92 : decode cX12_lawOf 92 = .ok (.aload_n 0, 1) := by decide +kernel
theorem dX12_lawOf_93 : decode cX12_lawOf 93 = .ok (.getfield 108, 3) := by decide +kernel
theorem dX12_lawOf_96 : decode cX12_lawOf 96 = .ok (.iload 4, 2) := by decide +kernel
theorem dX12_lawOf_98 : decode cX12_lawOf 98 = .ok (.iaload, 1) := by decide +kernel
theorem dX12_lawOf_99 : decode cX12_lawOf 99 = .ok (.aload_n 0, 1) := by decide +kernel
theorem dX12_lawOf_100 : decode cX12_lawOf 100 = .ok (.getfield 108, 3) := by decide +kernel
theorem dX12_lawOf_103 : decode cX12_lawOf 103 = .ok (.iload_n 3, 1) := by decide +kernel
theorem dX12_lawOf_104 : decode cX12_lawOf 104 = .ok (.iaload, 1) := by decide +kernel
theorem dX12_lawOf_105 : decode cX12_lawOf 105 = .ok (.if_icmp .lt 6, 3) := by decide +kernel
theorem dX12_lawOf_108 : decode cX12_lawOf 108 = .ok (.iload 4, 2) := by decide +kernel
theorem dX12_lawOf_110 : decode cX12_lawOf 110 = .ok (.istore_n 3, 1) := by decide +kernel
theorem dX12_lawOf_111 : decode cX12_lawOf 111 = .ok (.iinc 4 1, 3) := by decide +kernel
theorem dX12_lawOf_114 : decode cX12_lawOf 114 = .ok (.goto (-109), 3) := by decide +kernel
theorem dX12_lawOf_117 : decode cX12_lawOf 117 = .ok (.aload_n 0, 1) := by decide +kernel
theorem dX12_lawOf_118 : decode cX12_lawOf 118 = .ok (.getfield 401, 3) := by decide +kernel
theorem dX12_lawOf_121 : decode cX12_lawOf 121 = .ok (.ifCond .eq 29, 3) := by decide +kernel
theorem dX12_lawOf_124 : decode cX12_lawOf 124 = .ok (.aload_n 0, 1) := by decide +kernel
theorem dX12_lawOf_125 : decode cX12_lawOf 125 = .ok (.getfield 105, 3) := by decide +kernel
theorem dX12_lawOf_128 : decode cX12_lawOf 128 = .ok (.bipush 12, 2) := by decide +kernel
theorem dX12_lawOf_130 : decode cX12_lawOf 130 = .ok (.iaload, 1) := by decide +kernel
theorem dX12_lawOf_131 : decode cX12_lawOf 131 = .ok (.iload_n 1, 1) := by decide +kernel
theorem dX12_lawOf_132 : decode cX12_lawOf 132 = .ok (.if_icmp .ne 18, 3) := by decide +kernel
theorem dX12_lawOf_135 : decode cX12_lawOf 135 = .ok (.aload_n 0, 1) := by decide +kernel
theorem dX12_lawOf_136 : decode cX12_lawOf 136 = .ok (.getfield 108, 3) := by decide +kernel
theorem dX12_lawOf_139 : decode cX12_lawOf 139 = .ok (.bipush 12, 2) := by decide +kernel
theorem dX12_lawOf_141 : decode cX12_lawOf 141 = .ok (.iaload, 1) := by decide +kernel
theorem dX12_lawOf_142 : decode cX12_lawOf 142 = .ok (.iload_n 2, 1) := by decide +kernel
theorem dX12_lawOf_143 : decode cX12_lawOf 143 = .ok (.if_icmp .gt 7, 3) := by decide +kernel
theorem dX12_lawOf_146 : decode cX12_lawOf 146 = .ok (.iconst 1, 1) := by decide +kernel
theorem dX12_lawOf_147 : decode cX12_lawOf 147 = .ok (.goto 4, 3) := by decide +kernel
theorem dX12_lawOf_150 : decode cX12_lawOf 150 = .ok (.iconst 0, 1) := by decide +kernel
theorem dX12_lawOf_151 : decode cX12_lawOf 151 = .ok (.istore 4, 2) := by decide +kernel
theorem dX12_lawOf_153 : decode cX12_lawOf 153 = .ok (.iload 4, 2) := by decide +kernel
theorem dX12_lawOf_155 : decode cX12_lawOf 155 = .ok (.ifCond .eq 29, 3) := by decide +kernel
theorem dX12_lawOf_158 : decode cX12_lawOf 158 = .ok (.iload_n 3, 1) := by decide +kernel
theorem dX12_lawOf_159 : decode cX12_lawOf 159 = .ok (.iconst (-1), 1) := by decide +kernel
theorem dX12_lawOf_160 : decode cX12_lawOf 160 = .ok (.if_icmp .eq 19, 3) := by decide +kernel
theorem dX12_lawOf_163 : decode cX12_lawOf 163 = .ok (.aload_n 0, 1) := by decide +kernel
theorem dX12_lawOf_164 : decode cX12_lawOf 164 = .ok (.getfield 108, 3) := by decide +kernel
theorem dX12_lawOf_167 : decode cX12_lawOf 167 = .ok (.bipush 12, 2) := by decide +kernel
theorem dX12_lawOf_169 : decode cX12_lawOf 169 = .ok (.iaload, 1) := by decide +kernel
theorem dX12_lawOf_170 : decode cX12_lawOf 170 = .ok (.aload_n 0, 1) := by decide +kernel
theorem dX12_lawOf_171 : decode cX12_lawOf 171 = .ok (.getfield 108, 3) := by decide +kernel
theorem dX12_lawOf_174 : decode cX12_lawOf 174 = .ok (.iload_n 3, 1) := by decide +kernel
theorem dX12_lawOf_175 : decode cX12_lawOf 175 = .ok (.iaload, 1) := by decide +kernel
theorem dX12_lawOf_176 : decode cX12_lawOf 176 = .ok (.if_icmp .lt 8, 3) := by decide +kernel
theorem dX12_lawOf_179 : decode cX12_lawOf 179 = .ok (.bipush 12, 2) := by decide +kernel
theorem dX12_lawOf_181 : decode cX12_lawOf 181 = .ok (.goto 4, 3) := by decide +kernel
theorem dX12_lawOf_184 : decode cX12_lawOf 184 = .ok (.iload_n 3, 1) := by decide +kernel
theorem dX12_lawOf_185 : decode cX12_lawOf 185 = .ok (.ireturn, 1) := by decide +kernel
theorem dX12_looksBack_0 : decode cX12_looksBack 0 = .ok (.aload_n 0, 1) := by decide +kernel
theorem dX12_looksBack_1 : decode cX12_looksBack 1 = .ok (.getfield 59, 3) := by decide +kernel
theorem dX12_looksBack_4 : decode cX12_looksBack 4 = .ok (.iload_n 1, 1) := by decide +kernel
theorem dX12_looksBack_5 : decode cX12_looksBack 5 = .ok (.iaload, 1) := by decide +kernel
theorem dX12_looksBack_6 : decode cX12_looksBack 6 = .ok (.istore_n 2, 1) := by decide +kernel
theorem dX12_looksBack_7 : decode cX12_looksBack 7 = .ok (.iconst (-1), 1) := by decide +kernel
theorem dX12_looksBack_8 : decode cX12_looksBack 8 = .ok (.istore_n 3, 1) := by decide +kernel
theorem dX12_looksBack_9 : decode cX12_looksBack 9 = .ok (.aload_n 0, 1) := by decide +kernel
theorem dX12_looksBack_10 : decode cX12_looksBack 10 = .ok (.iconst 0, 1) := by decide +kernel
theorem dX12_looksBack_11 : decode cX12_looksBack 11 = .ok (.putfield 405, 3) := by decide +kernel
theorem dX12_looksBack_14 : decode cX12_looksBack 14 = .ok (.iconst 0, 1) := by decide +kernel
theorem dX12_looksBack_15 : decode cX12_looksBack 15 = .ok (.istore 4, 2) := by decide +kernel
theorem dX12_looksBack_17 : decode cX12_looksBack 17 = .ok (.iload 4, 2) := by decide +kernel
theorem dX12_looksBack_19 : decode cX12_looksBack 19 = .ok (.aload_n 0, 1) := by decide +kernel
theorem dX12_looksBack_20 : decode cX12_looksBack 20 = .ok (.getfield 253, 3) := by decide +kernel
theorem dX12_looksBack_23 : decode cX12_looksBack 23 = .ok (.if_icmp .ge 155, 3) := by decide +kernel
theorem dX12_looksBack_26 : decode cX12_looksBack 26 = .ok (.aload_n 0, 1) := by decide +kernel
theorem dX12_looksBack_27 : decode cX12_looksBack 27 = .ok (.getfield 56, 3) := by decide +kernel
theorem dX12_looksBack_30 : decode cX12_looksBack 30 = .ok (.iload 4, 2) := by decide +kernel
theorem dX12_looksBack_32 : decode cX12_looksBack 32 = .ok (.iaload, 1) := by decide +kernel
theorem dX12_looksBack_33 : decode cX12_looksBack 33 = .ok (.iconst 2, 1) := by decide +kernel
theorem dX12_looksBack_34 : decode cX12_looksBack 34 = .ok (.if_icmp .eq 14, 3) := by decide +kernel
theorem dX12_looksBack_37 : decode cX12_looksBack 37 = .ok (.aload_n 0, 1) := by decide +kernel
theorem dX12_looksBack_38 : decode cX12_looksBack 38 = .ok (.getfield 56, 3) := by decide +kernel
theorem dX12_looksBack_41 : decode cX12_looksBack 41 = .ok (.iload 4, 2) := by decide +kernel
theorem dX12_looksBack_43 : decode cX12_looksBack 43 = .ok (.iaload, 1) := by decide +kernel
theorem dX12_looksBack_44 : decode cX12_looksBack 44 = .ok (.iconst 3, 1) := by decide +kernel
theorem dX12_looksBack_45 : decode cX12_looksBack 45 = .ok (.if_icmp .ne 127, 3) := by decide +kernel
theorem dX12_looksBack_48 : decode cX12_looksBack 48 = .ok (.aload_n 0, 1) := by decide +kernel
theorem dX12_looksBack_49 : decode cX12_looksBack 49 = .ok (.getfield 59, 3) := by decide +kernel
theorem dX12_looksBack_52 : decode cX12_looksBack 52 = .ok (.iload 4, 2) := by decide +kernel
theorem dX12_looksBack_54 : decode cX12_looksBack 54 = .ok (.iaload, 1) := by decide +kernel
theorem dX12_looksBack_55 : decode cX12_looksBack 55 = .ok (.iload_n 2, 1) := by decide +kernel
theorem dX12_looksBack_56 : decode cX12_looksBack 56 = .ok (.if_icmp .ne 116, 3) := by decide +kernel
theorem dX12_looksBack_59 : decode cX12_looksBack 59 = .ok (.aload_n 0, 1) := by decide +kernel
theorem dX12_looksBack_60 : decode cX12_looksBack 60 = .ok (.iload 4, 2) := by decide +kernel
theorem dX12_looksBack_62 : decode cX12_looksBack 62 = .ok (.aload_n 0, 1) := by decide +kernel
theorem dX12_looksBack_63 : decode cX12_looksBack 63 = .ok (.getfield 398, 3) := by decide +kernel
theorem dX12_looksBack_66 : decode cX12_looksBack 66 = .ok (.invokevirtual 260, 3) := by decide +kernel
theorem dX12_looksBack_69 : decode cX12_looksBack 69 = .ok (.ifCond .eq 103, 3) := by decide +kernel
theorem dX12_looksBack_72 : decode cX12_looksBack 72 = .ok (.aload_n 0, 1) := by decide +kernel
theorem dX12_looksBack_73 : decode cX12_looksBack 73 = .ok (.getfield 68, 3) := by decide +kernel
theorem dX12_looksBack_76 : decode cX12_looksBack 76 = .ok (.iload 4, 2) := by decide +kernel
theorem dX12_looksBack_78 : decode cX12_looksBack 78 = .ok (.iaload, 1) := by decide +kernel
theorem dX12_looksBack_79 : decode cX12_looksBack 79 = .ok (.aload_n 0, 1) := by decide +kernel
theorem dX12_looksBack_80 : decode cX12_looksBack 80 = .ok (.getfield 68, 3) := by decide +kernel
theorem dX12_looksBack_83 : decode cX12_looksBack 83 = .ok (.iload_n 1, 1) := by decide +kernel
theorem dX12_looksBack_84 : decode cX12_looksBack 84 = .ok (.iaload, 1) := by decide +kernel
theorem dX12_looksBack_85 : decode cX12_looksBack 85 = .ok (.if_icmp .lt 6, 3) := by decide +kernel
theorem dX12_looksBack_88 : decode cX12_looksBack 88 = .ok (.goto 84, 3) := by decide +kernel
theorem dX12_looksBack_91 : decode cX12_looksBack 91 = .ok (.aload_n 0, 1) := by decide +kernel
theorem dX12_looksBack_92 : decode cX12_looksBack 92 = .ok (.getfield 65, 3) := by decide +kernel
theorem dX12_looksBack_95 : decode cX12_looksBack 95 = .ok (.iload 4, 2) := by decide +kernel
theorem dX12_looksBack_97 : decode cX12_looksBack 97 = .ok (.iaload, 1) := by decide +kernel
theorem dX12_looksBack_98 : decode cX12_looksBack 98 = .ok (.aload_n 0, 1) := by decide +kernel
theorem dX12_looksBack_99 : decode cX12_looksBack 99 = .ok (.getfield 62, 3) := by decide +kernel
theorem dX12_looksBack_102 : decode cX12_looksBack 102 = .ok (.iload_n 1, 1) := by decide +kernel
theorem dX12_looksBack_103 : decode cX12_looksBack 103 = .ok (.iaload, 1) := by decide +kernel
theorem dX12_looksBack_104 : decode cX12_looksBack 104 = .ok (.if_icmp .ne 27, 3) := by decide +kernel
theorem dX12_looksBack_107 : decode cX12_looksBack 107 = .ok (.iload_n 3, 1) := by decide +kernel
theorem dX12_looksBack_108 : decode cX12_looksBack 108 = .ok (.iconst (-1), 1) := by decide +kernel
theorem dX12_looksBack_109 : decode cX12_looksBack 109 = .ok (.if_icmp .eq 19, 3) := by decide +kernel
theorem dX12_looksBack_112 : decode cX12_looksBack 112 = .ok (.aload_n 0, 1) := by decide +kernel
theorem dX12_looksBack_113 : decode cX12_looksBack 113 = .ok (.getfield 68, 3) := by decide +kernel
theorem dX12_looksBack_116 : decode cX12_looksBack 116 = .ok (.iload 4, 2) := by decide +kernel
theorem dX12_looksBack_118 : decode cX12_looksBack 118 = .ok (.iaload, 1) := by decide +kernel
theorem dX12_looksBack_119 : decode cX12_looksBack 119 = .ok (.aload_n 0, 1) := by decide +kernel
theorem dX12_looksBack_120 : decode cX12_looksBack 120 = .ok (.getfield 68, 3) := by decide +kernel
theorem dX12_looksBack_123 : decode cX12_looksBack 123 = .ok (.iload_n 3, 1) := by decide +kernel
theorem dX12_looksBack_124 : decode cX12_looksBack 124 = .ok (.iaload, 1) := by decide +kernel
theorem dX12_looksBack_125 : decode cX12_looksBack 125 = .ok (.if_icmp .lt 6, 3) := by decide +kernel
theorem dX12_looksBack_128 : decode cX12_looksBack 128 = .ok (.iload 4, 2) := by decide +kernel
theorem dX12_looksBack_130 : decode cX12_looksBack 130 = .ok (.istore_n 3, 1) := by decide +kernel
theorem dX12_looksBack_131 : decode cX12_looksBack 131 = .ok (.aload_n 0, 1) := by decide +kernel
theorem dX12_looksBack_132 : decode cX12_looksBack 132 = .ok (.getfield 56, 3) := by decide +kernel
theorem dX12_looksBack_135 : decode cX12_looksBack 135 = .ok (.iload 4, 2) := by decide +kernel
theorem dX12_looksBack_137 : decode cX12_looksBack 137 = .ok (.iaload, 1) := by decide +kernel
theorem dX12_looksBack_138 : decode cX12_looksBack 138 = .ok (.iconst 2, 1) := by decide +kernel
theorem dX12_looksBack_139 : decode cX12_looksBack 139 = .ok (.if_icmp .ne 33, 3) := by decide +kernel
theorem dX12_looksBack_142 : decode cX12_looksBack 142 = .ok (.aload_n 0, 1) := by decide +kernel
theorem dX12_looksBack_143 : decode cX12_looksBack 143 = .ok (.getfield 68, 3) := by decide +kernel
theorem dX12_looksBack_146 : decode cX12_looksBack 146 = .ok (.iload 4, 2) := by decide +kernel
theorem dX12_looksBack_148 : decode cX12_looksBack 148 = .ok (.iaload, 1) := by decide +kernel
theorem dX12_looksBack_149 : decode cX12_looksBack 149 = .ok (.aload_n 0, 1) := by decide +kernel
theorem dX12_looksBack_150 : decode cX12_looksBack 150 = .ok (.getfield 68, 3) := by decide +kernel
theorem dX12_looksBack_153 : decode cX12_looksBack 153 = .ok (.iload_n 1, 1) := by decide +kernel
theorem dX12_looksBack_154 : decode cX12_looksBack 154 = .ok (.iaload, 1) := by decide +kernel
theorem dX12_looksBack_155 : decode cX12_looksBack 155 = .ok (.sipush 365, 3) := by decide +kernel
theorem dX12_looksBack_158 : decode cX12_looksBack 158 = .ok (.isub, 1) := by decide +kernel
theorem dX12_looksBack_159 : decode cX12_looksBack 159 = .ok (.if_icmp .lt 13, 3) := by decide +kernel
theorem dX12_looksBack_162 : decode cX12_looksBack 162 = .ok (.aload_n 0, 1) := by decide +kernel
theorem dX12_looksBack_163 : decode cX12_looksBack 163 = .ok (.dup, 1) := by decide +kernel
theorem dX12_looksBack_164 : decode cX12_looksBack 164 = .ok (.getfield 405, 3) := by decide +kernel
theorem dX12_looksBack_167 : decode cX12_looksBack 167 = .ok (.iconst 1, 1) := by decide +kernel
theorem dX12_looksBack_168 : decode cX12_looksBack 168 = .ok (.iadd, 1) := by decide +kernel
theorem dX12_looksBack_169 : decode cX12_looksBack 169 = .ok (.putfield 405, 3) := by decide +kernel
theorem dX12_looksBack_172 : decode cX12_looksBack 172 = .ok (.iinc 4 1, 3) := by decide +kernel
theorem dX12_looksBack_175 : decode cX12_looksBack 175 = .ok (.goto (-158), 3) := by decide +kernel
theorem dX12_looksBack_178 : decode cX12_looksBack 178 = .ok (.aload_n 0, 1) := by decide +kernel
theorem dX12_looksBack_179 : decode cX12_looksBack 179 = .ok (.iload_n 3, 1) := by decide +kernel
theorem dX12_looksBack_180 : decode cX12_looksBack 180 = .ok (.iconst (-1), 1) := by decide +kernel
theorem dX12_looksBack_181 : decode cX12_looksBack 181 = .ok (.if_icmp .ne 8, 3) := by decide +kernel
theorem dX12_looksBack_184 : decode cX12_looksBack 184 = .ok (.ldc 238, 2) := by decide +kernel
theorem dX12_looksBack_186 : decode cX12_looksBack 186 = .ok (.goto 16, 3) := by decide +kernel
theorem dX12_looksBack_189 : decode cX12_looksBack 189 = .ok (.aload_n 0, 1) := by decide +kernel
theorem dX12_looksBack_190 : decode cX12_looksBack 190 = .ok (.getfield 68, 3) := by decide +kernel
theorem dX12_looksBack_193 : decode cX12_looksBack 193 = .ok (.iload_n 1, 1) := by decide +kernel
theorem dX12_looksBack_194 : decode cX12_looksBack 194 = .ok (.iaload, 1) := by decide +kernel
theorem dX12_looksBack_195 : decode cX12_looksBack 195 = .ok (.aload_n 0, 1) := by decide +kernel
theorem dX12_looksBack_196 : decode cX12_looksBack 196 = .ok (.getfield 68, 3) := by decide +kernel
theorem dX12_looksBack_199 : decode cX12_looksBack 199 = .ok (.iload_n 3, 1) := by decide +kernel
theorem dX12_looksBack_200 : decode cX12_looksBack 200 = .ok (.iaload, 1) := by decide +kernel
theorem dX12_looksBack_201 : decode cX12_looksBack 201 = .ok (.isub, 1) := by decide +kernel
theorem dX12_looksBack_202 : decode cX12_looksBack 202 = .ok (.putfield 408, 3) := by decide +kernel
theorem dX12_looksBack_205 : decode cX12_looksBack 205 = .ok (.aload_n 0, 1) := by decide +kernel
theorem dX12_looksBack_206 : decode cX12_looksBack 206 = .ok (.iload_n 3, 1) := by decide +kernel
theorem dX12_looksBack_207 : decode cX12_looksBack 207 = .ok (.iconst (-1), 1) := by decide +kernel
theorem dX12_looksBack_208 : decode cX12_looksBack 208 = .ok (.if_icmp .eq 21, 3) := by decide +kernel
theorem dX12_looksBack_211 : decode cX12_looksBack 211 = .ok (.aload_n 0, 1) := by decide +kernel
theorem dX12_looksBack_212 : decode cX12_looksBack 212 = .ok (.iload_n 2, 1) := by decide +kernel
theorem dX12_looksBack_213 : decode cX12_looksBack 213 = .ok (.aload_n 0, 1) := by decide +kernel
theorem dX12_looksBack_214 : decode cX12_looksBack 214 = .ok (.getfield 62, 3) := by decide +kernel
theorem dX12_looksBack_217 : decode cX12_looksBack 217 = .ok (.iload_n 3, 1) := by decide +kernel
theorem dX12_looksBack_218 : decode cX12_looksBack 218 = .ok (.iaload, 1) := by decide +kernel
theorem dX12_looksBack_219 : decode cX12_looksBack 219 = .ok (.invokevirtual 246, 3) := by decide +kernel
theorem dX12_looksBack_222 : decode cX12_looksBack 222 = .ok (.ifCond .eq 7, 3) := by decide +kernel
theorem dX12_looksBack_225 : decode cX12_looksBack 225 = .ok (.iconst 1, 1) := by decide +kernel
theorem dX12_looksBack_226 : decode cX12_looksBack 226 = .ok (.goto 4, 3) := by decide +kernel
theorem dX12_looksBack_229 : decode cX12_looksBack 229 = .ok (.iconst 0, 1) := by decide +kernel
theorem dX12_looksBack_230 : decode cX12_looksBack 230 = .ok (.putfield 411, 3) := by decide +kernel
theorem dX12_looksBack_233 : decode cX12_looksBack 233 = .ok (.return_, 1) := by decide +kernel
theorem dX12_works_0 : decode cX12_works 0 = .ok (.iload_n 0, 1) := by decide +kernel
theorem dX12_works_1 : decode cX12_works 1 = .ok (.tableswitch 105 4 10 #[43, 57, 71, 82, 93, 97, 101], 43) := by decide +kernel
theorem dX12_works_44 : decode cX12_works 44 = .ok (.iload_n 1, 1) := by decide +kernel
theorem dX12_works_45 : decode cX12_works 45 = .ok (.ifCond .eq 11, 3) := by decide +kernel
theorem dX12_works_48 : decode cX12_works 48 = .ok (.iload_n 2, 1) := by decide +kernel
theorem dX12_works_49 : decode cX12_works 49 = .ok (.ifCond .eq 7, 3) := by decide +kernel
theorem dX12_works_52 : decode cX12_works 52 = .ok (.iconst 1, 1) := by decide +kernel
theorem dX12_works_53 : decode cX12_works 53 = .ok (.goto 4, 3) := by decide +kernel
theorem dX12_works_56 : decode cX12_works 56 = .ok (.iconst 0, 1) := by decide +kernel
theorem dX12_works_57 : decode cX12_works 57 = .ok (.ireturn, 1) := by decide +kernel
theorem dX12_works_58 : decode cX12_works 58 = .ok (.iload_n 1, 1) := by decide +kernel
theorem dX12_works_59 : decode cX12_works 59 = .ok (.ifCond .ne 7, 3) := by decide +kernel
theorem dX12_works_62 : decode cX12_works 62 = .ok (.iload_n 2, 1) := by decide +kernel
theorem dX12_works_63 : decode cX12_works 63 = .ok (.ifCond .eq 7, 3) := by decide +kernel
theorem dX12_works_66 : decode cX12_works 66 = .ok (.iconst 1, 1) := by decide +kernel
theorem dX12_works_67 : decode cX12_works 67 = .ok (.goto 4, 3) := by decide +kernel
theorem dX12_works_70 : decode cX12_works 70 = .ok (.iconst 0, 1) := by decide +kernel
theorem dX12_works_71 : decode cX12_works 71 = .ok (.ireturn, 1) := by decide +kernel
theorem dX12_works_72 : decode cX12_works 72 = .ok (.iload_n 1, 1) := by decide +kernel
theorem dX12_works_73 : decode cX12_works 73 = .ok (.iload_n 2, 1) := by decide +kernel
theorem dX12_works_74 : decode cX12_works 74 = .ok (.if_icmp .ge 7, 3) := by decide +kernel
theorem dX12_works_77 : decode cX12_works 77 = .ok (.iconst 1, 1) := by decide +kernel
theorem dX12_works_78 : decode cX12_works 78 = .ok (.goto 4, 3) := by decide +kernel
theorem dX12_works_81 : decode cX12_works 81 = .ok (.iconst 0, 1) := by decide +kernel
theorem dX12_works_82 : decode cX12_works 82 = .ok (.ireturn, 1) := by decide +kernel
theorem dX12_works_83 : decode cX12_works 83 = .ok (.iload_n 1, 1) := by decide +kernel
theorem dX12_works_84 : decode cX12_works 84 = .ok (.iload_n 2, 1) := by decide +kernel
theorem dX12_works_85 : decode cX12_works 85 = .ok (.if_icmp .ne 7, 3) := by decide +kernel
theorem dX12_works_88 : decode cX12_works 88 = .ok (.iconst 1, 1) := by decide +kernel
theorem dX12_works_89 : decode cX12_works 89 = .ok (.goto 4, 3) := by decide +kernel
theorem dX12_works_92 : decode cX12_works 92 = .ok (.iconst 0, 1) := by decide +kernel
theorem dX12_works_93 : decode cX12_works 93 = .ok (.ireturn, 1) := by decide +kernel
theorem dX12_works_94 : decode cX12_works 94 = .ok (.iload_n 1, 1) := by decide +kernel
theorem dX12_works_95 : decode cX12_works 95 = .ok (.iload_n 2, 1) := by decide +kernel
theorem dX12_works_96 : decode cX12_works 96 = .ok (.iadd, 1) := by decide +kernel
theorem dX12_works_97 : decode cX12_works 97 = .ok (.ireturn, 1) := by decide +kernel
theorem dX12_works_98 : decode cX12_works 98 = .ok (.iload_n 1, 1) := by decide +kernel
theorem dX12_works_99 : decode cX12_works 99 = .ok (.iload_n 2, 1) := by decide +kernel
theorem dX12_works_100 : decode cX12_works 100 = .ok (.isub, 1) := by decide +kernel
theorem dX12_works_101 : decode cX12_works 101 = .ok (.ireturn, 1) := by decide +kernel
theorem dX12_works_102 : decode cX12_works 102 = .ok (.iload_n 1, 1) := by decide +kernel
theorem dX12_works_103 : decode cX12_works 103 = .ok (.iload_n 2, 1) := by decide +kernel
theorem dX12_works_104 : decode cX12_works 104 = .ok (.imul, 1) := by decide +kernel
theorem dX12_works_105 : decode cX12_works 105 = .ok (.ireturn, 1) := by decide +kernel
theorem dX12_works_106 : decode cX12_works 106 = .ok (.iload_n 2, 1) := by decide +kernel
theorem dX12_works_107 : decode cX12_works 107 = .ok (.ifCond .ne 7, 3) := by decide +kernel
theorem dX12_works_110 : decode cX12_works 110 = .ok (.iconst 0, 1) := by decide +kernel
theorem dX12_works_111 : decode cX12_works 111 = .ok (.goto 6, 3) := by decide +kernel
theorem dX12_works_114 : decode cX12_works 114 = .ok (.iload_n 1, 1) := by decide +kernel
theorem dX12_works_115 : decode cX12_works 115 = .ok (.iload_n 2, 1) := by decide +kernel
theorem dX12_works_116 : decode cX12_works 116 = .ok (.idiv, 1) := by decide +kernel
theorem dX12_works_117 : decode cX12_works 117 = .ok (.ireturn, 1) := by decide +kernel
theorem dX12_worth_0 : decode cX12_worth 0 = .ok (.iconst 0, 1) := by decide +kernel
theorem dX12_worth_1 : decode cX12_worth 1 = .ok (.istore_n 2, 1) := by decide +kernel
theorem dX12_worth_2 : decode cX12_worth 2 = .ok (.iload_n 1, 1) := by decide +kernel
theorem dX12_worth_3 : decode cX12_worth 3 = .ok (.istore_n 3, 1) := by decide +kernel
theorem dX12_worth_4 : decode cX12_worth 4 = .ok (.aload_n 0, 1) := by decide +kernel
theorem dX12_worth_5 : decode cX12_worth 5 = .ok (.getfield 147, 3) := by decide +kernel
theorem dX12_worth_8 : decode cX12_worth 8 = .ok (.iload_n 3, 1) := by decide +kernel
theorem dX12_worth_9 : decode cX12_worth 9 = .ok (.iaload, 1) := by decide +kernel
theorem dX12_worth_10 : decode cX12_worth 10 = .ok (.ifCond .eq 133, 3) := by decide +kernel
theorem dX12_worth_13 : decode cX12_worth 13 = .ok (.aload_n 0, 1) := by decide +kernel
theorem dX12_worth_14 : decode cX12_worth 14 = .ok (.getfield 147, 3) := by decide +kernel
theorem dX12_worth_17 : decode cX12_worth 17 = .ok (.iload_n 3, 1) := by decide +kernel
theorem dX12_worth_18 : decode cX12_worth 18 = .ok (.iaload, 1) := by decide +kernel
theorem dX12_worth_19 : decode cX12_worth 19 = .ok (.istore 4, 2) := by decide +kernel
theorem dX12_worth_21 : decode cX12_worth 21 = .ok (.iinc 3 1, 3) := by decide +kernel
theorem dX12_worth_24 : decode cX12_worth 24 = .ok (.iload 4, 2) := by decide +kernel
theorem dX12_worth_26 : decode cX12_worth 26 = .ok (.iconst 1, 1) := by decide +kernel
theorem dX12_worth_27 : decode cX12_worth 27 = .ok (.if_icmp .eq 9, 3) := by decide +kernel
theorem dX12_worth_30 : decode cX12_worth 30 = .ok (.iload 4, 2) := by decide +kernel
theorem dX12_worth_32 : decode cX12_worth 32 = .ok (.iconst 2, 1) := by decide +kernel
theorem dX12_worth_33 : decode cX12_worth 33 = .ok (.if_icmp .ne 44, 3) := by decide +kernel
theorem dX12_worth_36 : decode cX12_worth 36 = .ok (.aload_n 0, 1) := by decide +kernel
theorem dX12_worth_37 : decode cX12_worth 37 = .ok (.getfield 171, 3) := by decide +kernel
theorem dX12_worth_40 : decode cX12_worth 40 = .ok (.iload_n 2, 1) := by decide +kernel
theorem dX12_worth_41 : decode cX12_worth 41 = .ok (.iload 4, 2) := by decide +kernel
theorem dX12_worth_43 : decode cX12_worth 43 = .ok (.iconst 1, 1) := by decide +kernel
theorem dX12_worth_44 : decode cX12_worth 44 = .ok (.if_icmp .ne 12, 3) := by decide +kernel
theorem dX12_worth_47 : decode cX12_worth 47 = .ok (.aload_n 0, 1) := by decide +kernel
theorem dX12_worth_48 : decode cX12_worth 48 = .ok (.getfield 147, 3) := by decide +kernel
theorem dX12_worth_51 : decode cX12_worth 51 = .ok (.iload_n 3, 1) := by decide +kernel
theorem dX12_worth_52 : decode cX12_worth 52 = .ok (.iaload, 1) := by decide +kernel
theorem dX12_worth_53 : decode cX12_worth 53 = .ok (.goto 14, 3) := by decide +kernel
theorem dX12_worth_56 : decode cX12_worth 56 = .ok (.aload_n 0, 1) := by decide +kernel
theorem dX12_worth_57 : decode cX12_worth 57 = .ok (.getfield 168, 3) := by decide +kernel
theorem dX12_worth_60 : decode cX12_worth 60 = .ok (.aload_n 0, 1) := by decide +kernel
theorem dX12_worth_61 : decode cX12_worth 61 = .ok (.getfield 147, 3) := by decide +kernel
theorem dX12_worth_64 : decode cX12_worth 64 = .ok (.iload_n 3, 1) := by decide +kernel
theorem dX12_worth_65 : decode cX12_worth 65 = .ok (.iaload, 1) := by decide +kernel
theorem dX12_worth_66 : decode cX12_worth 66 = .ok (.iaload, 1) := by decide +kernel
theorem dX12_worth_67 : decode cX12_worth 67 = .ok (.iastore, 1) := by decide +kernel
theorem dX12_worth_68 : decode cX12_worth 68 = .ok (.iinc 3 1, 3) := by decide +kernel
theorem dX12_worth_71 : decode cX12_worth 71 = .ok (.iinc 2 1, 3) := by decide +kernel
theorem dX12_worth_74 : decode cX12_worth 74 = .ok (.goto 66, 3) := by decide +kernel
theorem dX12_worth_77 : decode cX12_worth 77 = .ok (.iload 4, 2) := by decide +kernel
theorem dX12_worth_79 : decode cX12_worth 79 = .ok (.iconst 3, 1) := by decide +kernel
theorem dX12_worth_80 : decode cX12_worth 80 = .ok (.if_icmp .ne 30, 3) := by decide +kernel
theorem dX12_worth_83 : decode cX12_worth 83 = .ok (.aload_n 0, 1) := by decide +kernel
theorem dX12_worth_84 : decode cX12_worth 84 = .ok (.getfield 171, 3) := by decide +kernel
theorem dX12_worth_87 : decode cX12_worth 87 = .ok (.iload_n 2, 1) := by decide +kernel
theorem dX12_worth_88 : decode cX12_worth 88 = .ok (.iconst 1, 1) := by decide +kernel
theorem dX12_worth_89 : decode cX12_worth 89 = .ok (.isub, 1) := by decide +kernel
theorem dX12_worth_90 : decode cX12_worth 90 = .ok (.aload_n 0, 1) := by decide +kernel
theorem dX12_worth_91 : decode cX12_worth 91 = .ok (.getfield 171, 3) := by decide +kernel
theorem dX12_worth_94 : decode cX12_worth 94 = .ok (.iload_n 2, 1) := by decide +kernel
theorem dX12_worth_95 : decode cX12_worth 95 = .ok (.iconst 1, 1) := by decide +kernel
theorem dX12_worth_96 : decode cX12_worth 96 = .ok (.isub, 1) := by decide +kernel
theorem dX12_worth_97 : decode cX12_worth 97 = .ok (.iaload, 1) := by decide +kernel
theorem dX12_worth_98 : decode cX12_worth 98 = .ok (.ifCond .ne 7, 3) := by decide +kernel
theorem dX12_worth_101 : decode cX12_worth 101 = .ok (.iconst 1, 1) := by decide +kernel
theorem dX12_worth_102 : decode cX12_worth 102 = .ok (.goto 4, 3) := by decide +kernel
theorem dX12_worth_105 : decode cX12_worth 105 = .ok (.iconst 0, 1) := by decide +kernel
theorem dX12_worth_106 : decode cX12_worth 106 = .ok (.iastore, 1) := by decide +kernel
theorem dX12_worth_107 : decode cX12_worth 107 = .ok (.goto 33, 3) := by decide +kernel
theorem dX12_worth_110 : decode cX12_worth 110 = .ok (.iinc 2 (-1), 3) := by decide +kernel
theorem dX12_worth_113 : decode cX12_worth 113 = .ok (.aload_n 0, 1) := by decide +kernel
theorem dX12_worth_114 : decode cX12_worth 114 = .ok (.getfield 171, 3) := by decide +kernel
theorem dX12_worth_117 : decode cX12_worth 117 = .ok (.iload_n 2, 1) := by decide +kernel
theorem dX12_worth_118 : decode cX12_worth 118 = .ok (.iconst 1, 1) := by decide +kernel
theorem dX12_worth_119 : decode cX12_worth 119 = .ok (.isub, 1) := by decide +kernel
theorem dX12_worth_120 : decode cX12_worth 120 = .ok (.iload 4, 2) := by decide +kernel
theorem dX12_worth_122 : decode cX12_worth 122 = .ok (.aload_n 0, 1) := by decide +kernel
theorem dX12_worth_123 : decode cX12_worth 123 = .ok (.getfield 171, 3) := by decide +kernel
theorem dX12_worth_126 : decode cX12_worth 126 = .ok (.iload_n 2, 1) := by decide +kernel
theorem dX12_worth_127 : decode cX12_worth 127 = .ok (.iconst 1, 1) := by decide +kernel
theorem dX12_worth_128 : decode cX12_worth 128 = .ok (.isub, 1) := by decide +kernel
theorem dX12_worth_129 : decode cX12_worth 129 = .ok (.iaload, 1) := by decide +kernel
theorem dX12_worth_130 : decode cX12_worth 130 = .ok (.aload_n 0, 1) := by decide +kernel
theorem dX12_worth_131 : decode cX12_worth 131 = .ok (.getfield 171, 3) := by decide +kernel
theorem dX12_worth_134 : decode cX12_worth 134 = .ok (.iload_n 2, 1) := by decide +kernel
theorem dX12_worth_135 : decode cX12_worth 135 = .ok (.iaload, 1) := by decide +kernel
theorem dX12_worth_136 : decode cX12_worth 136 = .ok (.invokestatic 414, 3) := by decide +kernel
theorem dX12_worth_139 : decode cX12_worth 139 = .ok (.iastore, 1) := by decide +kernel
theorem dX12_worth_140 : decode cX12_worth 140 = .ok (.goto (-136), 3) := by decide +kernel
theorem dX12_worth_143 : decode cX12_worth 143 = .ok (.aload_n 0, 1) := by decide +kernel
theorem dX12_worth_144 : decode cX12_worth 144 = .ok (.getfield 171, 3) := by decide +kernel
theorem dX12_worth_147 : decode cX12_worth 147 = .ok (.iconst 0, 1) := by decide +kernel
theorem dX12_worth_148 : decode cX12_worth 148 = .ok (.iaload, 1) := by decide +kernel
theorem dX12_worth_149 : decode cX12_worth 149 = .ok (.ireturn, 1) := by decide +kernel
theorem dX12_isCounting_0 : decode cX12_isCounting 0 = .ok (.aload_n 0, 1) := by decide +kernel
theorem dX12_isCounting_1 : decode cX12_isCounting 1 = .ok (.getfield 416, 3) := by decide +kernel
theorem dX12_isCounting_4 : decode cX12_isCounting 4 = .ok (.iconst (-1), 1) := by decide +kernel
theorem dX12_isCounting_5 : decode cX12_isCounting 5 = .ok (.if_icmp .eq 19, 3) := by decide +kernel
theorem dX12_isCounting_8 : decode cX12_isCounting 8 = .ok (.aload_n 0, 1) := by decide +kernel
theorem dX12_isCounting_9 : decode cX12_isCounting 9 = .ok (.getfield 419, 3) := by decide +kernel
theorem dX12_isCounting_12 : decode cX12_isCounting 12 = .ok (.aload_n 0, 1) := by decide +kernel
theorem dX12_isCounting_13 : decode cX12_isCounting 13 = .ok (.getfield 123, 3) := by decide +kernel
theorem dX12_isCounting_16 : decode cX12_isCounting 16 = .ok (.aload_n 0, 1) := by decide +kernel
theorem dX12_isCounting_17 : decode cX12_isCounting 17 = .ok (.getfield 416, 3) := by decide +kernel
theorem dX12_isCounting_20 : decode cX12_isCounting 20 = .ok (.iaload, 1) := by decide +kernel
theorem dX12_isCounting_21 : decode cX12_isCounting 21 = .ok (.if_icmp .ge 5, 3) := by decide +kernel
theorem dX12_isCounting_24 : decode cX12_isCounting 24 = .ok (.iconst 0, 1) := by decide +kernel
theorem dX12_isCounting_25 : decode cX12_isCounting 25 = .ok (.ireturn, 1) := by decide +kernel
theorem dX12_isCounting_26 : decode cX12_isCounting 26 = .ok (.aload_n 0, 1) := by decide +kernel
theorem dX12_isCounting_27 : decode cX12_isCounting 27 = .ok (.getfield 59, 3) := by decide +kernel
theorem dX12_isCounting_30 : decode cX12_isCounting 30 = .ok (.iload_n 1, 1) := by decide +kernel
theorem dX12_isCounting_31 : decode cX12_isCounting 31 = .ok (.iaload, 1) := by decide +kernel
theorem dX12_isCounting_32 : decode cX12_isCounting 32 = .ok (.istore_n 2, 1) := by decide +kernel
theorem dX12_isCounting_33 : decode cX12_isCounting 33 = .ok (.aload_n 0, 1) := by decide +kernel
theorem dX12_isCounting_34 : decode cX12_isCounting 34 = .ok (.iload_n 2, 1) := by decide +kernel
theorem dX12_isCounting_35 : decode cX12_isCounting 35 = .ok (.aload_n 0, 1) := by decide +kernel
theorem dX12_isCounting_36 : decode cX12_isCounting 36 = .ok (.getfield 62, 3) := by decide +kernel
theorem dX12_isCounting_39 : decode cX12_isCounting 39 = .ok (.iload_n 1, 1) := by decide +kernel
theorem dX12_isCounting_40 : decode cX12_isCounting 40 = .ok (.iaload, 1) := by decide +kernel
theorem dX12_isCounting_41 : decode cX12_isCounting 41 = .ok (.invokevirtual 246, 3) := by decide +kernel
theorem dX12_isCounting_44 : decode cX12_isCounting 44 = .ok (.istore_n 3, 1) := by decide +kernel
theorem dX12_isCounting_45 : decode cX12_isCounting 45 = .ok (.aload_n 0, 1) := by decide +kernel
theorem dX12_isCounting_46 : decode cX12_isCounting 46 = .ok (.getfield 138, 3) := by decide +kernel
theorem dX12_isCounting_49 : decode cX12_isCounting 49 = .ok (.aload_n 0, 1) := by decide +kernel
theorem dX12_isCounting_50 : decode cX12_isCounting 50 = .ok (.getfield 416, 3) := by decide +kernel
theorem dX12_isCounting_53 : decode cX12_isCounting 53 = .ok (.iaload, 1) := by decide +kernel
theorem dX12_isCounting_54 : decode cX12_isCounting 54 = .ok (.iconst (-1), 1) := by decide +kernel
theorem dX12_isCounting_55 : decode cX12_isCounting 55 = .ok (.if_icmp .ne 13, 3) := by decide +kernel
theorem dX12_isCounting_58 : decode cX12_isCounting 58 = .ok (.iload_n 3, 1) := by decide +kernel
theorem dX12_isCounting_59 : decode cX12_isCounting 59 = .ok (.ifCond .ne 7, 3) := by decide +kernel
theorem dX12_isCounting_62 : decode cX12_isCounting 62 = .ok (.iconst 1, 1) := by decide +kernel
theorem dX12_isCounting_63 : decode cX12_isCounting 63 = .ok (.goto 4, 3) := by decide +kernel
theorem dX12_isCounting_66 : decode cX12_isCounting 66 = .ok (.iconst 0, 1) := by decide +kernel
theorem dX12_isCounting_67 : decode cX12_isCounting 67 = .ok (.ireturn, 1) := by decide +kernel
theorem dX12_isCounting_68 : decode cX12_isCounting 68 = .ok (.aload_n 0, 1) := by decide +kernel
theorem dX12_isCounting_69 : decode cX12_isCounting 69 = .ok (.getfield 168, 3) := by decide +kernel
theorem dX12_isCounting_72 : decode cX12_isCounting 72 = .ok (.iconst 0, 1) := by decide +kernel
theorem dX12_isCounting_73 : decode cX12_isCounting 73 = .ok (.aload_n 0, 1) := by decide +kernel
theorem dX12_isCounting_74 : decode cX12_isCounting 74 = .ok (.getfield 419, 3) := by decide +kernel
theorem dX12_isCounting_77 : decode cX12_isCounting 77 = .ok (.iastore, 1) := by decide +kernel
theorem dX12_isCounting_78 : decode cX12_isCounting 78 = .ok (.aload_n 0, 1) := by decide +kernel
theorem dX12_isCounting_79 : decode cX12_isCounting 79 = .ok (.getfield 168, 3) := by decide +kernel
theorem dX12_isCounting_82 : decode cX12_isCounting 82 = .ok (.iconst 1, 1) := by decide +kernel
theorem dX12_isCounting_83 : decode cX12_isCounting 83 = .ok (.aload_n 0, 1) := by decide +kernel
theorem dX12_isCounting_84 : decode cX12_isCounting 84 = .ok (.getfield 13, 3) := by decide +kernel
theorem dX12_isCounting_87 : decode cX12_isCounting 87 = .ok (.aload_n 0, 1) := by decide +kernel
theorem dX12_isCounting_88 : decode cX12_isCounting 88 = .ok (.getfield 62, 3) := by decide +kernel
theorem dX12_isCounting_91 : decode cX12_isCounting 91 = .ok (.iload_n 1, 1) := by decide +kernel
theorem dX12_isCounting_92 : decode cX12_isCounting 92 = .ok (.iaload, 1) := by decide +kernel
theorem dX12_isCounting_93 : decode cX12_isCounting 93 = .ok (.iaload, 1) := by decide +kernel
theorem dX12_isCounting_94 : decode cX12_isCounting 94 = .ok (.iastore, 1) := by decide +kernel
theorem dX12_isCounting_95 : decode cX12_isCounting 95 = .ok (.aload_n 0, 1) := by decide +kernel
theorem dX12_isCounting_96 : decode cX12_isCounting 96 = .ok (.getfield 168, 3) := by decide +kernel
theorem dX12_isCounting_99 : decode cX12_isCounting 99 = .ok (.iconst 2, 1) := by decide +kernel
theorem dX12_isCounting_100 : decode cX12_isCounting 100 = .ok (.aload_n 0, 1) := by decide +kernel
theorem dX12_isCounting_101 : decode cX12_isCounting 101 = .ok (.getfield 13, 3) := by decide +kernel
theorem dX12_isCounting_104 : decode cX12_isCounting 104 = .ok (.aload_n 0, 1) := by decide +kernel
theorem dX12_isCounting_105 : decode cX12_isCounting 105 = .ok (.getfield 65, 3) := by decide +kernel
theorem dX12_isCounting_108 : decode cX12_isCounting 108 = .ok (.iload_n 1, 1) := by decide +kernel
theorem dX12_isCounting_109 : decode cX12_isCounting 109 = .ok (.iaload, 1) := by decide +kernel
theorem dX12_isCounting_110 : decode cX12_isCounting 110 = .ok (.iaload, 1) := by decide +kernel
theorem dX12_isCounting_111 : decode cX12_isCounting 111 = .ok (.iastore, 1) := by decide +kernel
theorem dX12_isCounting_112 : decode cX12_isCounting 112 = .ok (.aload_n 0, 1) := by decide +kernel
theorem dX12_isCounting_113 : decode cX12_isCounting 113 = .ok (.getfield 168, 3) := by decide +kernel
theorem dX12_isCounting_116 : decode cX12_isCounting 116 = .ok (.iconst 3, 1) := by decide +kernel
theorem dX12_isCounting_117 : decode cX12_isCounting 117 = .ok (.aload_n 0, 1) := by decide +kernel
theorem dX12_isCounting_118 : decode cX12_isCounting 118 = .ok (.getfield 80, 3) := by decide +kernel
theorem dX12_isCounting_121 : decode cX12_isCounting 121 = .ok (.iload_n 1, 1) := by decide +kernel
theorem dX12_isCounting_122 : decode cX12_isCounting 122 = .ok (.iaload, 1) := by decide +kernel
theorem dX12_isCounting_123 : decode cX12_isCounting 123 = .ok (.iastore, 1) := by decide +kernel
theorem dX12_isCounting_124 : decode cX12_isCounting 124 = .ok (.aload_n 0, 1) := by decide +kernel
theorem dX12_isCounting_125 : decode cX12_isCounting 125 = .ok (.getfield 168, 3) := by decide +kernel
theorem dX12_isCounting_128 : decode cX12_isCounting 128 = .ok (.iconst 4, 1) := by decide +kernel
theorem dX12_isCounting_129 : decode cX12_isCounting 129 = .ok (.iload_n 3, 1) := by decide +kernel
theorem dX12_isCounting_130 : decode cX12_isCounting 130 = .ok (.ifCond .eq 7, 3) := by decide +kernel
theorem dX12_isCounting_133 : decode cX12_isCounting 133 = .ok (.iconst 1, 1) := by decide +kernel
theorem dX12_isCounting_134 : decode cX12_isCounting 134 = .ok (.goto 4, 3) := by decide +kernel
theorem dX12_isCounting_137 : decode cX12_isCounting 137 = .ok (.iconst 0, 1) := by decide +kernel
theorem dX12_isCounting_138 : decode cX12_isCounting 138 = .ok (.iastore, 1) := by decide +kernel
theorem dX12_isCounting_139 : decode cX12_isCounting 139 = .ok (.aload_n 0, 1) := by decide +kernel
theorem dX12_isCounting_140 : decode cX12_isCounting 140 = .ok (.getfield 168, 3) := by decide +kernel
theorem dX12_isCounting_143 : decode cX12_isCounting 143 = .ok (.iconst 5, 1) := by decide +kernel
theorem dX12_isCounting_144 : decode cX12_isCounting 144 = .ok (.aload_n 0, 1) := by decide +kernel
theorem dX12_isCounting_145 : decode cX12_isCounting 145 = .ok (.getfield 408, 3) := by decide +kernel
theorem dX12_isCounting_148 : decode cX12_isCounting 148 = .ok (.iastore, 1) := by decide +kernel
theorem dX12_isCounting_149 : decode cX12_isCounting 149 = .ok (.aload_n 0, 1) := by decide +kernel
theorem dX12_isCounting_150 : decode cX12_isCounting 150 = .ok (.getfield 168, 3) := by decide +kernel
theorem dX12_isCounting_153 : decode cX12_isCounting 153 = .ok (.bipush 6, 2) := by decide +kernel
theorem dX12_isCounting_155 : decode cX12_isCounting 155 = .ok (.aload_n 0, 1) := by decide +kernel
theorem dX12_isCounting_156 : decode cX12_isCounting 156 = .ok (.getfield 411, 3) := by decide +kernel
theorem dX12_isCounting_159 : decode cX12_isCounting 159 = .ok (.iastore, 1) := by decide +kernel
theorem dX12_isCounting_160 : decode cX12_isCounting 160 = .ok (.aload_n 0, 1) := by decide +kernel
theorem dX12_isCounting_161 : decode cX12_isCounting 161 = .ok (.getfield 168, 3) := by decide +kernel
theorem dX12_isCounting_164 : decode cX12_isCounting 164 = .ok (.bipush 7, 2) := by decide +kernel
theorem dX12_isCounting_166 : decode cX12_isCounting 166 = .ok (.aload_n 0, 1) := by decide +kernel
theorem dX12_isCounting_167 : decode cX12_isCounting 167 = .ok (.getfield 405, 3) := by decide +kernel
theorem dX12_isCounting_170 : decode cX12_isCounting 170 = .ok (.iastore, 1) := by decide +kernel
theorem dX12_isCounting_171 : decode cX12_isCounting 171 = .ok (.aload_n 0, 1) := by decide +kernel
theorem dX12_isCounting_172 : decode cX12_isCounting 172 = .ok (.getfield 168, 3) := by decide +kernel
theorem dX12_isCounting_175 : decode cX12_isCounting 175 = .ok (.bipush 8, 2) := by decide +kernel
theorem dX12_isCounting_177 : decode cX12_isCounting 177 = .ok (.aload_n 0, 1) := by decide +kernel
theorem dX12_isCounting_178 : decode cX12_isCounting 178 = .ok (.getfield 16, 3) := by decide +kernel
theorem dX12_isCounting_181 : decode cX12_isCounting 181 = .ok (.iload_n 2, 1) := by decide +kernel
theorem dX12_isCounting_182 : decode cX12_isCounting 182 = .ok (.iaload, 1) := by decide +kernel
theorem dX12_isCounting_183 : decode cX12_isCounting 183 = .ok (.iastore, 1) := by decide +kernel
theorem dX12_isCounting_184 : decode cX12_isCounting 184 = .ok (.aload_n 0, 1) := by decide +kernel
theorem dX12_isCounting_185 : decode cX12_isCounting 185 = .ok (.getfield 168, 3) := by decide +kernel
theorem dX12_isCounting_188 : decode cX12_isCounting 188 = .ok (.bipush 9, 2) := by decide +kernel
theorem dX12_isCounting_190 : decode cX12_isCounting 190 = .ok (.aload_n 0, 1) := by decide +kernel
theorem dX12_isCounting_191 : decode cX12_isCounting 191 = .ok (.getfield 25, 3) := by decide +kernel
theorem dX12_isCounting_194 : decode cX12_isCounting 194 = .ok (.iload_n 2, 1) := by decide +kernel
theorem dX12_isCounting_195 : decode cX12_isCounting 195 = .ok (.iaload, 1) := by decide +kernel
theorem dX12_isCounting_196 : decode cX12_isCounting 196 = .ok (.iastore, 1) := by decide +kernel
theorem dX12_isCounting_197 : decode cX12_isCounting 197 = .ok (.aload_n 0, 1) := by decide +kernel
theorem dX12_isCounting_198 : decode cX12_isCounting 198 = .ok (.aload_n 0, 1) := by decide +kernel
theorem dX12_isCounting_199 : decode cX12_isCounting 199 = .ok (.getfield 138, 3) := by decide +kernel
theorem dX12_isCounting_202 : decode cX12_isCounting 202 = .ok (.aload_n 0, 1) := by decide +kernel
theorem dX12_isCounting_203 : decode cX12_isCounting 203 = .ok (.getfield 416, 3) := by decide +kernel
theorem dX12_isCounting_206 : decode cX12_isCounting 206 = .ok (.iaload, 1) := by decide +kernel
theorem dX12_isCounting_207 : decode cX12_isCounting 207 = .ok (.invokevirtual 422, 3) := by decide +kernel
theorem dX12_isCounting_210 : decode cX12_isCounting 210 = .ok (.ifCond .eq 7, 3) := by decide +kernel
theorem dX12_isCounting_213 : decode cX12_isCounting 213 = .ok (.iconst 1, 1) := by decide +kernel
theorem dX12_isCounting_214 : decode cX12_isCounting 214 = .ok (.goto 4, 3) := by decide +kernel
theorem dX12_isCounting_217 : decode cX12_isCounting 217 = .ok (.iconst 0, 1) := by decide +kernel
theorem dX12_isCounting_218 : decode cX12_isCounting 218 = .ok (.ireturn, 1) := by decide +kernel
theorem dX12_partOf_0 : decode cX12_partOf 0 = .ok (.lconst 0, 1) := by decide +kernel
theorem dX12_partOf_1 : decode cX12_partOf 1 = .ok (.lstore_n 1, 1) := by decide +kernel
theorem dX12_partOf_2 : decode cX12_partOf 2 = .ok (.iconst 0, 1) := by decide +kernel
theorem dX12_partOf_3 : decode cX12_partOf 3 = .ok (.istore_n 3, 1) := by decide +kernel
theorem dX12_partOf_4 : decode cX12_partOf 4 = .ok (.iconst 0, 1) := by decide +kernel
theorem dX12_partOf_5 : decode cX12_partOf 5 = .ok (.istore 4, 2) := by decide +kernel
theorem dX12_partOf_7 : decode cX12_partOf 7 = .ok (.iload 4, 2) := by decide +kernel
theorem dX12_partOf_9 : decode cX12_partOf 9 = .ok (.aload_n 0, 1) := by decide +kernel
theorem dX12_partOf_10 : decode cX12_partOf 10 = .ok (.getfield 117, 3) := by decide +kernel
theorem dX12_partOf_13 : decode cX12_partOf 13 = .ok (.aload_n 0, 1) := by decide +kernel
theorem dX12_partOf_14 : decode cX12_partOf 14 = .ok (.getfield 416, 3) := by decide +kernel
theorem dX12_partOf_17 : decode cX12_partOf 17 = .ok (.iaload, 1) := by decide +kernel
theorem dX12_partOf_18 : decode cX12_partOf 18 = .ok (.if_icmp .ge 102, 3) := by decide +kernel
theorem dX12_partOf_21 : decode cX12_partOf 21 = .ok (.aload_n 0, 1) := by decide +kernel
theorem dX12_partOf_22 : decode cX12_partOf 22 = .ok (.getfield 141, 3) := by decide +kernel
theorem dX12_partOf_25 : decode cX12_partOf 25 = .ok (.bipush 16, 2) := by decide +kernel
theorem dX12_partOf_27 : decode cX12_partOf 27 = .ok (.aload_n 0, 1) := by decide +kernel
theorem dX12_partOf_28 : decode cX12_partOf 28 = .ok (.getfield 416, 3) := by decide +kernel
theorem dX12_partOf_31 : decode cX12_partOf 31 = .ok (.imul, 1) := by decide +kernel
theorem dX12_partOf_32 : decode cX12_partOf 32 = .ok (.iload 4, 2) := by decide +kernel
theorem dX12_partOf_34 : decode cX12_partOf 34 = .ok (.iadd, 1) := by decide +kernel
theorem dX12_partOf_35 : decode cX12_partOf 35 = .ok (.iaload, 1) := by decide +kernel
theorem dX12_partOf_36 : decode cX12_partOf 36 = .ok (.aload_n 0, 1) := by decide +kernel
theorem dX12_partOf_37 : decode cX12_partOf 37 = .ok (.getfield 419, 3) := by decide +kernel
theorem dX12_partOf_40 : decode cX12_partOf 40 = .ok (.if_icmp .ge 21, 3) := by decide +kernel
theorem dX12_partOf_43 : decode cX12_partOf 43 = .ok (.aload_n 0, 1) := by decide +kernel
theorem dX12_partOf_44 : decode cX12_partOf 44 = .ok (.getfield 141, 3) := by decide +kernel
theorem dX12_partOf_47 : decode cX12_partOf 47 = .ok (.bipush 16, 2) := by decide +kernel
theorem dX12_partOf_49 : decode cX12_partOf 49 = .ok (.aload_n 0, 1) := by decide +kernel
theorem dX12_partOf_50 : decode cX12_partOf 50 = .ok (.getfield 416, 3) := by decide +kernel
theorem dX12_partOf_53 : decode cX12_partOf 53 = .ok (.imul, 1) := by decide +kernel
theorem dX12_partOf_54 : decode cX12_partOf 54 = .ok (.iload 4, 2) := by decide +kernel
theorem dX12_partOf_56 : decode cX12_partOf 56 = .ok (.iadd, 1) := by decide +kernel
theorem dX12_partOf_57 : decode cX12_partOf 57 = .ok (.iaload, 1) := by decide +kernel
theorem dX12_partOf_58 : decode cX12_partOf 58 = .ok (.goto 7, 3) := by decide +kernel
theorem dX12_partOf_61 : decode cX12_partOf 61 = .ok (.aload_n 0, 1) := by decide +kernel
theorem dX12_partOf_62 : decode cX12_partOf 62 = .ok (.getfield 419, 3) := by decide +kernel
theorem dX12_partOf_65 : decode cX12_partOf 65 = .ok (.istore 5, 2) := by decide +kernel
theorem dX12_partOf_67 : decode cX12_partOf 67 = .ok (.iload 5, 2) := by decide +kernel
theorem dX12_partOf_69 : decode cX12_partOf 69 = .ok (.iload_n 3, 1) := by decide +kernel
theorem dX12_partOf_70 : decode cX12_partOf 70 = .ok (.if_icmp .le 28, 3) := by decide +kernel
theorem dX12_partOf_73 : decode cX12_partOf 73 = .ok (.lload_n 1, 1) := by decide +kernel
theorem dX12_partOf_74 : decode cX12_partOf 74 = .ok (.iload 5, 2) := by decide +kernel
theorem dX12_partOf_76 : decode cX12_partOf 76 = .ok (.iload_n 3, 1) := by decide +kernel
theorem dX12_partOf_77 : decode cX12_partOf 77 = .ok (.isub, 1) := by decide +kernel
theorem dX12_partOf_78 : decode cX12_partOf 78 = .ok (.i2l, 1) := by decide +kernel
theorem dX12_partOf_79 : decode cX12_partOf 79 = .ok (.aload_n 0, 1) := by decide +kernel
theorem dX12_partOf_80 : decode cX12_partOf 80 = .ok (.getfield 144, 3) := by decide +kernel
theorem dX12_partOf_83 : decode cX12_partOf 83 = .ok (.bipush 16, 2) := by decide +kernel
theorem dX12_partOf_85 : decode cX12_partOf 85 = .ok (.aload_n 0, 1) := by decide +kernel
theorem dX12_partOf_86 : decode cX12_partOf 86 = .ok (.getfield 416, 3) := by decide +kernel
theorem dX12_partOf_89 : decode cX12_partOf 89 = .ok (.imul, 1) := by decide +kernel
theorem dX12_partOf_90 : decode cX12_partOf 90 = .ok (.iload 4, 2) := by decide +kernel
theorem dX12_partOf_92 : decode cX12_partOf 92 = .ok (.iadd, 1) := by decide +kernel
theorem dX12_partOf_93 : decode cX12_partOf 93 = .ok (.iaload, 1) := by decide +kernel
theorem dX12_partOf_94 : decode cX12_partOf 94 = .ok (.i2l, 1) := by decide +kernel
theorem dX12_partOf_95 : decode cX12_partOf 95 = .ok (.lmul, 1) := by decide +kernel
theorem dX12_partOf_96 : decode cX12_partOf 96 = .ok (.ladd, 1) := by decide +kernel
theorem dX12_partOf_97 : decode cX12_partOf 97 = .ok (.lstore_n 1, 1) := by decide +kernel
theorem dX12_partOf_98 : decode cX12_partOf 98 = .ok (.aload_n 0, 1) := by decide +kernel
theorem dX12_partOf_99 : decode cX12_partOf 99 = .ok (.getfield 141, 3) := by decide +kernel
theorem dX12_partOf_102 : decode cX12_partOf 102 = .ok (.bipush 16, 2) := by decide +kernel
theorem dX12_partOf_104 : decode cX12_partOf 104 = .ok (.aload_n 0, 1) := by decide +kernel
theorem dX12_partOf_105 : decode cX12_partOf 105 = .ok (.getfield 416, 3) := by decide +kernel
theorem dX12_partOf_108 : decode cX12_partOf 108 = .ok (.imul, 1) := by decide +kernel
theorem dX12_partOf_109 : decode cX12_partOf 109 = .ok (.iload 4, 2) := by decide +kernel
theorem dX12_partOf_111 : decode cX12_partOf 111 = .ok (.iadd, 1) := by decide +kernel
theorem dX12_partOf_112 : decode cX12_partOf 112 = .ok (.iaload, 1) := by decide +kernel
theorem dX12_partOf_113 : decode cX12_partOf 113 = .ok (.istore_n 3, 1) := by decide +kernel
theorem dX12_partOf_114 : decode cX12_partOf 114 = .ok (.iinc 4 1, 3) := by decide +kernel
theorem dX12_partOf_117 : decode cX12_partOf 117 = .ok (.goto (-110), 3) := by decide +kernel
theorem dX12_partOf_120 : decode cX12_partOf 120 = .ok (.aload_n 0, 1) := by decide +kernel
theorem dX12_partOf_121 : decode cX12_partOf 121 = .ok (.getfield 419, 3) := by decide +kernel
theorem dX12_partOf_124 : decode cX12_partOf 124 = .ok (.iload_n 3, 1) := by decide +kernel
theorem dX12_partOf_125 : decode cX12_partOf 125 = .ok (.if_icmp .le 24, 3) := by decide +kernel
theorem dX12_partOf_128 : decode cX12_partOf 128 = .ok (.lload_n 1, 1) := by decide +kernel
theorem dX12_partOf_129 : decode cX12_partOf 129 = .ok (.aload_n 0, 1) := by decide +kernel
theorem dX12_partOf_130 : decode cX12_partOf 130 = .ok (.getfield 419, 3) := by decide +kernel
theorem dX12_partOf_133 : decode cX12_partOf 133 = .ok (.iload_n 3, 1) := by decide +kernel
theorem dX12_partOf_134 : decode cX12_partOf 134 = .ok (.isub, 1) := by decide +kernel
theorem dX12_partOf_135 : decode cX12_partOf 135 = .ok (.i2l, 1) := by decide +kernel
theorem dX12_partOf_136 : decode cX12_partOf 136 = .ok (.aload_n 0, 1) := by decide +kernel
theorem dX12_partOf_137 : decode cX12_partOf 137 = .ok (.getfield 120, 3) := by decide +kernel
theorem dX12_partOf_140 : decode cX12_partOf 140 = .ok (.aload_n 0, 1) := by decide +kernel
theorem dX12_partOf_141 : decode cX12_partOf 141 = .ok (.getfield 416, 3) := by decide +kernel
theorem dX12_partOf_144 : decode cX12_partOf 144 = .ok (.iaload, 1) := by decide +kernel
theorem dX12_partOf_145 : decode cX12_partOf 145 = .ok (.i2l, 1) := by decide +kernel
theorem dX12_partOf_146 : decode cX12_partOf 146 = .ok (.lmul, 1) := by decide +kernel
theorem dX12_partOf_147 : decode cX12_partOf 147 = .ok (.ladd, 1) := by decide +kernel
theorem dX12_partOf_148 : decode cX12_partOf 148 = .ok (.lstore_n 1, 1) := by decide +kernel
theorem dX12_partOf_149 : decode cX12_partOf 149 = .ok (.lload_n 1, 1) := by decide +kernel
theorem dX12_partOf_150 : decode cX12_partOf 150 = .ok (.ldc2_w 425, 3) := by decide +kernel
theorem dX12_partOf_153 : decode cX12_partOf 153 = .ok (.ldiv, 1) := by decide +kernel
theorem dX12_partOf_154 : decode cX12_partOf 154 = .ok (.lstore_n 1, 1) := by decide +kernel
theorem dX12_partOf_155 : decode cX12_partOf 155 = .ok (.aload_n 0, 1) := by decide +kernel
theorem dX12_partOf_156 : decode cX12_partOf 156 = .ok (.getfield 126, 3) := by decide +kernel
theorem dX12_partOf_159 : decode cX12_partOf 159 = .ok (.aload_n 0, 1) := by decide +kernel
theorem dX12_partOf_160 : decode cX12_partOf 160 = .ok (.getfield 416, 3) := by decide +kernel
theorem dX12_partOf_163 : decode cX12_partOf 163 = .ok (.iaload, 1) := by decide +kernel
theorem dX12_partOf_164 : decode cX12_partOf 164 = .ok (.iconst (-1), 1) := by decide +kernel
theorem dX12_partOf_165 : decode cX12_partOf 165 = .ok (.if_icmp .eq 31, 3) := by decide +kernel
theorem dX12_partOf_168 : decode cX12_partOf 168 = .ok (.lload_n 1, 1) := by decide +kernel
theorem dX12_partOf_169 : decode cX12_partOf 169 = .ok (.aload_n 0, 1) := by decide +kernel
theorem dX12_partOf_170 : decode cX12_partOf 170 = .ok (.getfield 126, 3) := by decide +kernel
theorem dX12_partOf_173 : decode cX12_partOf 173 = .ok (.aload_n 0, 1) := by decide +kernel
theorem dX12_partOf_174 : decode cX12_partOf 174 = .ok (.getfield 416, 3) := by decide +kernel
theorem dX12_partOf_177 : decode cX12_partOf 177 = .ok (.iaload, 1) := by decide +kernel
theorem dX12_partOf_178 : decode cX12_partOf 178 = .ok (.i2l, 1) := by decide +kernel
theorem dX12_partOf_179 : decode cX12_partOf 179 = .ok (.lcmp, 1) := by decide +kernel
theorem dX12_partOf_180 : decode cX12_partOf 180 = .ok (.ifCond .le 16, 3) := by decide +kernel
theorem dX12_partOf_183 : decode cX12_partOf 183 = .ok (.aload_n 0, 1) := by decide +kernel
theorem dX12_partOf_184 : decode cX12_partOf 184 = .ok (.getfield 126, 3) := by decide +kernel
theorem dX12_partOf_187 : decode cX12_partOf 187 = .ok (.aload_n 0, 1) := by decide +kernel
theorem dX12_partOf_188 : decode cX12_partOf 188 = .ok (.getfield 416, 3) := by decide +kernel
theorem dX12_partOf_191 : decode cX12_partOf 191 = .ok (.iaload, 1) := by decide +kernel
theorem dX12_partOf_192 : decode cX12_partOf 192 = .ok (.i2l, 1) := by decide +kernel
theorem dX12_partOf_193 : decode cX12_partOf 193 = .ok (.goto 4, 3) := by decide +kernel
theorem dX12_partOf_196 : decode cX12_partOf 196 = .ok (.lload_n 1, 1) := by decide +kernel
theorem dX12_partOf_197 : decode cX12_partOf 197 = .ok (.l2i, 1) := by decide +kernel
theorem dX12_partOf_198 : decode cX12_partOf 198 = .ok (.ireturn, 1) := by decide +kernel
theorem dX12_sells_0 : decode cX12_sells 0 = .ok (.aload_n 0, 1) := by decide +kernel
theorem dX12_sells_1 : decode cX12_sells 1 = .ok (.aload_n 0, 1) := by decide +kernel
theorem dX12_sells_2 : decode cX12_sells 2 = .ok (.getfield 77, 3) := by decide +kernel
theorem dX12_sells_5 : decode cX12_sells 5 = .ok (.iload_n 1, 1) := by decide +kernel
theorem dX12_sells_6 : decode cX12_sells 6 = .ok (.iaload, 1) := by decide +kernel
theorem dX12_sells_7 : decode cX12_sells 7 = .ok (.i2l, 1) := by decide +kernel
theorem dX12_sells_8 : decode cX12_sells 8 = .ok (.aload_n 0, 1) := by decide +kernel
theorem dX12_sells_9 : decode cX12_sells 9 = .ok (.aload_n 0, 1) := by decide +kernel
theorem dX12_sells_10 : decode cX12_sells 10 = .ok (.getfield 74, 3) := by decide +kernel
theorem dX12_sells_13 : decode cX12_sells 13 = .ok (.iload_n 1, 1) := by decide +kernel
theorem dX12_sells_14 : decode cX12_sells 14 = .ok (.iaload, 1) := by decide +kernel
theorem dX12_sells_15 : decode cX12_sells 15 = .ok (.aload_n 0, 1) := by decide +kernel
theorem dX12_sells_16 : decode cX12_sells 16 = .ok (.getfield 68, 3) := by decide +kernel
theorem dX12_sells_19 : decode cX12_sells 19 = .ok (.iload_n 1, 1) := by decide +kernel
theorem dX12_sells_20 : decode cX12_sells 20 = .ok (.iaload, 1) := by decide +kernel
theorem dX12_sells_21 : decode cX12_sells 21 = .ok (.invokevirtual 427, 3) := by decide +kernel
theorem dX12_sells_24 : decode cX12_sells 24 = .ok (.i2l, 1) := by decide +kernel
theorem dX12_sells_25 : decode cX12_sells 25 = .ok (.lmul, 1) := by decide +kernel
theorem dX12_sells_26 : decode cX12_sells 26 = .ok (.ldc2_w 431, 3) := by decide +kernel
theorem dX12_sells_29 : decode cX12_sells 29 = .ok (.ldiv, 1) := by decide +kernel
theorem dX12_sells_30 : decode cX12_sells 30 = .ok (.l2i, 1) := by decide +kernel
theorem dX12_sells_31 : decode cX12_sells 31 = .ok (.putfield 419, 3) := by decide +kernel
theorem dX12_sells_34 : decode cX12_sells 34 = .ok (.aload_n 0, 1) := by decide +kernel
theorem dX12_sells_35 : decode cX12_sells 35 = .ok (.aload_n 0, 1) := by decide +kernel
theorem dX12_sells_36 : decode cX12_sells 36 = .ok (.aload_n 0, 1) := by decide +kernel
theorem dX12_sells_37 : decode cX12_sells 37 = .ok (.getfield 74, 3) := by decide +kernel
theorem dX12_sells_40 : decode cX12_sells 40 = .ok (.iload_n 1, 1) := by decide +kernel
theorem dX12_sells_41 : decode cX12_sells 41 = .ok (.iaload, 1) := by decide +kernel
theorem dX12_sells_42 : decode cX12_sells 42 = .ok (.aload_n 0, 1) := by decide +kernel
theorem dX12_sells_43 : decode cX12_sells 43 = .ok (.getfield 68, 3) := by decide +kernel
theorem dX12_sells_46 : decode cX12_sells 46 = .ok (.iload_n 1, 1) := by decide +kernel
theorem dX12_sells_47 : decode cX12_sells 47 = .ok (.iaload, 1) := by decide +kernel
theorem dX12_sells_48 : decode cX12_sells 48 = .ok (.invokevirtual 433, 3) := by decide +kernel
theorem dX12_sells_51 : decode cX12_sells 51 = .ok (.putfield 416, 3) := by decide +kernel
theorem dX12_sells_54 : decode cX12_sells 54 = .ok (.aload_n 0, 1) := by decide +kernel
theorem dX12_sells_55 : decode cX12_sells 55 = .ok (.iload_n 1, 1) := by decide +kernel
theorem dX12_sells_56 : decode cX12_sells 56 = .ok (.invokevirtual 436, 3) := by decide +kernel
theorem dX12_sells_59 : decode cX12_sells 59 = .ok (.aload_n 0, 1) := by decide +kernel
theorem dX12_sells_60 : decode cX12_sells 60 = .ok (.aload_n 0, 1) := by decide +kernel
theorem dX12_sells_61 : decode cX12_sells 61 = .ok (.iload_n 1, 1) := by decide +kernel
theorem dX12_sells_62 : decode cX12_sells 62 = .ok (.invokevirtual 439, 3) := by decide +kernel
theorem dX12_sells_65 : decode cX12_sells 65 = .ok (.ifCond .eq 7, 3) := by decide +kernel
theorem dX12_sells_68 : decode cX12_sells 68 = .ok (.iconst 1, 1) := by decide +kernel
theorem dX12_sells_69 : decode cX12_sells 69 = .ok (.goto 4, 3) := by decide +kernel
theorem dX12_sells_72 : decode cX12_sells 72 = .ok (.iconst 0, 1) := by decide +kernel
theorem dX12_sells_73 : decode cX12_sells 73 = .ok (.putfield 442, 3) := by decide +kernel
theorem dX12_sells_76 : decode cX12_sells 76 = .ok (.aload_n 0, 1) := by decide +kernel
theorem dX12_sells_77 : decode cX12_sells 77 = .ok (.aload_n 0, 1) := by decide +kernel
theorem dX12_sells_78 : decode cX12_sells 78 = .ok (.getfield 442, 3) := by decide +kernel
theorem dX12_sells_81 : decode cX12_sells 81 = .ok (.iconst 1, 1) := by decide +kernel
theorem dX12_sells_82 : decode cX12_sells 82 = .ok (.if_icmp .ne 10, 3) := by decide +kernel
theorem dX12_sells_85 : decode cX12_sells 85 = .ok (.aload_n 0, 1) := by decide +kernel
theorem dX12_sells_86 : decode cX12_sells 86 = .ok (.invokevirtual 445, 3) := by decide +kernel
theorem dX12_sells_89 : decode cX12_sells 89 = .ok (.goto 4, 3) := by decide +kernel
theorem dX12_sells_92 : decode cX12_sells 92 = .ok (.iconst 0, 1) := by decide +kernel
theorem dX12_sells_93 : decode cX12_sells 93 = .ok (.putfield 448, 3) := by decide +kernel
theorem dX12_sells_96 : decode cX12_sells 96 = .ok (.aload_n 0, 1) := by decide +kernel
theorem dX12_sells_97 : decode cX12_sells 97 = .ok (.iconst 0, 1) := by decide +kernel
theorem dX12_sells_98 : decode cX12_sells 98 = .ok (.putfield 450, 3) := by decide +kernel
theorem dX12_sells_101 : decode cX12_sells 101 = .ok (.aload_n 0, 1) := by decide +kernel
theorem dX12_sells_102 : decode cX12_sells 102 = .ok (.iconst (-1), 1) := by decide +kernel
theorem dX12_sells_103 : decode cX12_sells 103 = .ok (.putfield 453, 3) := by decide +kernel
theorem dX12_sells_106 : decode cX12_sells 106 = .ok (.aload_n 0, 1) := by decide +kernel
theorem dX12_sells_107 : decode cX12_sells 107 = .ok (.getfield 224, 3) := by decide +kernel
theorem dX12_sells_110 : decode cX12_sells 110 = .ok (.iconst 1, 1) := by decide +kernel
theorem dX12_sells_111 : decode cX12_sells 111 = .ok (.isub, 1) := by decide +kernel
theorem dX12_sells_112 : decode cX12_sells 112 = .ok (.istore_n 2, 1) := by decide +kernel
theorem dX12_sells_113 : decode cX12_sells 113 = .ok (.iload_n 2, 1) := by decide +kernel
theorem dX12_sells_114 : decode cX12_sells 114 = .ok (.ifCond .lt 29, 3) := by decide +kernel
theorem dX12_sells_117 : decode cX12_sells 117 = .ok (.aload_n 0, 1) := by decide +kernel
theorem dX12_sells_118 : decode cX12_sells 118 = .ok (.getfield 41, 3) := by decide +kernel
theorem dX12_sells_121 : decode cX12_sells 121 = .ok (.iload_n 2, 1) := by decide +kernel
theorem dX12_sells_122 : decode cX12_sells 122 = .ok (.iaload, 1) := by decide +kernel
theorem dX12_sells_123 : decode cX12_sells 123 = .ok (.aload_n 0, 1) := by decide +kernel
theorem dX12_sells_124 : decode cX12_sells 124 = .ok (.getfield 74, 3) := by decide +kernel
theorem dX12_sells_127 : decode cX12_sells 127 = .ok (.iload_n 1, 1) := by decide +kernel
theorem dX12_sells_128 : decode cX12_sells 128 = .ok (.iaload, 1) := by decide +kernel
theorem dX12_sells_129 : decode cX12_sells 129 = .ok (.if_icmp .ne 8, 3) := by decide +kernel
theorem dX12_sells_132 : decode cX12_sells 132 = .ok (.aload_n 0, 1) := by decide +kernel
theorem dX12_sells_133 : decode cX12_sells 133 = .ok (.iload_n 2, 1) := by decide +kernel
theorem dX12_sells_134 : decode cX12_sells 134 = .ok (.putfield 453, 3) := by decide +kernel
theorem dX12_sells_137 : decode cX12_sells 137 = .ok (.iinc 2 (-1), 3) := by decide +kernel
theorem dX12_sells_140 : decode cX12_sells 140 = .ok (.goto (-27), 3) := by decide +kernel
theorem dX12_sells_143 : decode cX12_sells 143 = .ok (.iconst 0, 1) := by decide +kernel
theorem dX12_sells_144 : decode cX12_sells 144 = .ok (.istore_n 2, 1) := by decide +kernel
theorem dX12_sells_145 : decode cX12_sells 145 = .ok (.iload_n 2, 1) := by decide +kernel
theorem dX12_sells_146 : decode cX12_sells 146 = .ok (.bipush 30, 2) := by decide +kernel
theorem dX12_sells_148 : decode cX12_sells 148 = .ok (.if_icmp .ge 44, 3) := by decide +kernel
theorem dX12_sells_151 : decode cX12_sells 151 = .ok (.aload_n 0, 1) := by decide +kernel
theorem dX12_sells_152 : decode cX12_sells 152 = .ok (.getfield 174, 3) := by decide +kernel
theorem dX12_sells_155 : decode cX12_sells 155 = .ok (.iload_n 2, 1) := by decide +kernel
theorem dX12_sells_156 : decode cX12_sells 156 = .ok (.iconst 0, 1) := by decide +kernel
theorem dX12_sells_157 : decode cX12_sells 157 = .ok (.iastore, 1) := by decide +kernel
theorem dX12_sells_158 : decode cX12_sells 158 = .ok (.aload_n 0, 1) := by decide +kernel
theorem dX12_sells_159 : decode cX12_sells 159 = .ok (.getfield 177, 3) := by decide +kernel
theorem dX12_sells_162 : decode cX12_sells 162 = .ok (.iload_n 2, 1) := by decide +kernel
theorem dX12_sells_163 : decode cX12_sells 163 = .ok (.iconst 0, 1) := by decide +kernel
theorem dX12_sells_164 : decode cX12_sells 164 = .ok (.iastore, 1) := by decide +kernel
theorem dX12_sells_165 : decode cX12_sells 165 = .ok (.aload_n 0, 1) := by decide +kernel
theorem dX12_sells_166 : decode cX12_sells 166 = .ok (.getfield 180, 3) := by decide +kernel
theorem dX12_sells_169 : decode cX12_sells 169 = .ok (.iload_n 2, 1) := by decide +kernel
theorem dX12_sells_170 : decode cX12_sells 170 = .ok (.iconst 0, 1) := by decide +kernel
theorem dX12_sells_171 : decode cX12_sells 171 = .ok (.iastore, 1) := by decide +kernel
theorem dX12_sells_172 : decode cX12_sells 172 = .ok (.aload_n 0, 1) := by decide +kernel
theorem dX12_sells_173 : decode cX12_sells 173 = .ok (.getfield 183, 3) := by decide +kernel
theorem dX12_sells_176 : decode cX12_sells 176 = .ok (.iload_n 2, 1) := by decide +kernel
theorem dX12_sells_177 : decode cX12_sells 177 = .ok (.iconst 0, 1) := by decide +kernel
theorem dX12_sells_178 : decode cX12_sells 178 = .ok (.iastore, 1) := by decide +kernel
theorem dX12_sells_179 : decode cX12_sells 179 = .ok (.aload_n 0, 1) := by decide +kernel
theorem dX12_sells_180 : decode cX12_sells 180 = .ok (.getfield 186, 3) := by decide +kernel
theorem dX12_sells_183 : decode cX12_sells 183 = .ok (.iload_n 2, 1) := by decide +kernel
theorem dX12_sells_184 : decode cX12_sells 184 = .ok (.iconst (-1), 1) := by decide +kernel
theorem dX12_sells_185 : decode cX12_sells 185 = .ok (.iastore, 1) := by decide +kernel
theorem dX12_sells_186 : decode cX12_sells 186 = .ok (.iinc 2 1, 3) := by decide +kernel
theorem dX12_sells_189 : decode cX12_sells 189 = .ok (.goto (-44), 3) := by decide +kernel
theorem dX12_sells_192 : decode cX12_sells 192 = .ok (.aload_n 0, 1) := by decide +kernel
theorem dX12_sells_193 : decode cX12_sells 193 = .ok (.getfield 442, 3) := by decide +kernel
theorem dX12_sells_196 : decode cX12_sells 196 = .ok (.ifCond .ne 4, 3) := by decide +kernel
theorem dX12_sells_199 : decode cX12_sells 199 = .ok (.return_, 1) := by decide +kernel
theorem dX12_sells_200 : decode cX12_sells 200 = .ok (.aload_n 0, 1) := by decide +kernel
theorem dX12_sells_201 : decode cX12_sells 201 = .ok (.iload_n 1, 1) := by decide +kernel
theorem dX12_sells_202 : decode cX12_sells 202 = .ok (.invokevirtual 456, 3) := by decide +kernel
theorem dX12_sells_205 : decode cX12_sells 205 = .ok (.aload_n 0, 1) := by decide +kernel
theorem dX12_sells_206 : decode cX12_sells 206 = .ok (.aload_n 0, 1) := by decide +kernel
theorem dX12_sells_207 : decode cX12_sells 207 = .ok (.getfield 68, 3) := by decide +kernel
theorem dX12_sells_210 : decode cX12_sells 210 = .ok (.iload_n 1, 1) := by decide +kernel
theorem dX12_sells_211 : decode cX12_sells 211 = .ok (.iaload, 1) := by decide +kernel
theorem dX12_sells_212 : decode cX12_sells 212 = .ok (.invokevirtual 459, 3) := by decide +kernel
theorem dX12_sells_215 : decode cX12_sells 215 = .ok (.iconst 0, 1) := by decide +kernel
theorem dX12_sells_216 : decode cX12_sells 216 = .ok (.istore_n 2, 1) := by decide +kernel
theorem dX12_sells_217 : decode cX12_sells 217 = .ok (.iload_n 2, 1) := by decide +kernel
theorem dX12_sells_218 : decode cX12_sells 218 = .ok (.aload_n 0, 1) := by decide +kernel
theorem dX12_sells_219 : decode cX12_sells 219 = .ok (.getfield 218, 3) := by decide +kernel
theorem dX12_sells_222 : decode cX12_sells 222 = .ok (.if_icmp .ge 24, 3) := by decide +kernel
theorem dX12_sells_225 : decode cX12_sells 225 = .ok (.aload_n 0, 1) := by decide +kernel
theorem dX12_sells_226 : decode cX12_sells 226 = .ok (.getfield 180, 3) := by decide +kernel
theorem dX12_sells_229 : decode cX12_sells 229 = .ok (.iload_n 2, 1) := by decide +kernel
theorem dX12_sells_230 : decode cX12_sells 230 = .ok (.iaload, 1) := by decide +kernel
theorem dX12_sells_231 : decode cX12_sells 231 = .ok (.ifCond .le 9, 3) := by decide +kernel
theorem dX12_sells_234 : decode cX12_sells 234 = .ok (.aload_n 0, 1) := by decide +kernel
theorem dX12_sells_235 : decode cX12_sells 235 = .ok (.iload_n 1, 1) := by decide +kernel
theorem dX12_sells_236 : decode cX12_sells 236 = .ok (.iload_n 2, 1) := by decide +kernel
theorem dX12_sells_237 : decode cX12_sells 237 = .ok (.invokevirtual 462, 3) := by decide +kernel
theorem dX12_sells_240 : decode cX12_sells 240 = .ok (.iinc 2 1, 3) := by decide +kernel
theorem dX12_sells_243 : decode cX12_sells 243 = .ok (.goto (-26), 3) := by decide +kernel
theorem dX12_sells_246 : decode cX12_sells 246 = .ok (.return_, 1) := by decide +kernel
theorem dX12_shares_0 : decode cX12_shares 0 = .ok (.aload_n 0, 1) := by decide +kernel
theorem dX12_shares_1 : decode cX12_shares 1 = .ok (.getfield 59, 3) := by decide +kernel
theorem dX12_shares_4 : decode cX12_shares 4 = .ok (.iload_n 1, 1) := by decide +kernel
theorem dX12_shares_5 : decode cX12_shares 5 = .ok (.iaload, 1) := by decide +kernel
theorem dX12_shares_6 : decode cX12_shares 6 = .ok (.istore_n 2, 1) := by decide +kernel
theorem dX12_shares_7 : decode cX12_shares 7 = .ok (.iconst 0, 1) := by decide +kernel
theorem dX12_shares_8 : decode cX12_shares 8 = .ok (.istore_n 3, 1) := by decide +kernel
theorem dX12_shares_9 : decode cX12_shares 9 = .ok (.iconst 0, 1) := by decide +kernel
theorem dX12_shares_10 : decode cX12_shares 10 = .ok (.istore 4, 2) := by decide +kernel
theorem dX12_shares_12 : decode cX12_shares 12 = .ok (.iload 4, 2) := by decide +kernel
theorem dX12_shares_14 : decode cX12_shares 14 = .ok (.aload_n 0, 1) := by decide +kernel
theorem dX12_shares_15 : decode cX12_shares 15 = .ok (.getfield 16, 3) := by decide +kernel
theorem dX12_shares_18 : decode cX12_shares 18 = .ok (.iload_n 2, 1) := by decide +kernel
theorem dX12_shares_19 : decode cX12_shares 19 = .ok (.iaload, 1) := by decide +kernel
theorem dX12_shares_20 : decode cX12_shares 20 = .ok (.if_icmp .ge 23, 3) := by decide +kernel
theorem dX12_shares_23 : decode cX12_shares 23 = .ok (.iload_n 3, 1) := by decide +kernel
theorem dX12_shares_24 : decode cX12_shares 24 = .ok (.aload_n 0, 1) := by decide +kernel
theorem dX12_shares_25 : decode cX12_shares 25 = .ok (.getfield 22, 3) := by decide +kernel
theorem dX12_shares_28 : decode cX12_shares 28 = .ok (.iconst 3, 1) := by decide +kernel
theorem dX12_shares_29 : decode cX12_shares 29 = .ok (.iload_n 2, 1) := by decide +kernel
theorem dX12_shares_30 : decode cX12_shares 30 = .ok (.imul, 1) := by decide +kernel
theorem dX12_shares_31 : decode cX12_shares 31 = .ok (.iload 4, 2) := by decide +kernel
theorem dX12_shares_33 : decode cX12_shares 33 = .ok (.iadd, 1) := by decide +kernel
theorem dX12_shares_34 : decode cX12_shares 34 = .ok (.iaload, 1) := by decide +kernel
theorem dX12_shares_35 : decode cX12_shares 35 = .ok (.iadd, 1) := by decide +kernel
theorem dX12_shares_36 : decode cX12_shares 36 = .ok (.istore_n 3, 1) := by decide +kernel
theorem dX12_shares_37 : decode cX12_shares 37 = .ok (.iinc 4 1, 3) := by decide +kernel
theorem dX12_shares_40 : decode cX12_shares 40 = .ok (.goto (-28), 3) := by decide +kernel
theorem dX12_shares_43 : decode cX12_shares 43 = .ok (.sipush 365, 3) := by decide +kernel
theorem dX12_shares_46 : decode cX12_shares 46 = .ok (.aload_n 0, 1) := by decide +kernel
theorem dX12_shares_47 : decode cX12_shares 47 = .ok (.getfield 129, 3) := by decide +kernel
theorem dX12_shares_50 : decode cX12_shares 50 = .ok (.aload_n 0, 1) := by decide +kernel
theorem dX12_shares_51 : decode cX12_shares 51 = .ok (.getfield 416, 3) := by decide +kernel
theorem dX12_shares_54 : decode cX12_shares 54 = .ok (.iaload, 1) := by decide +kernel
theorem dX12_shares_55 : decode cX12_shares 55 = .ok (.imul, 1) := by decide +kernel
theorem dX12_shares_56 : decode cX12_shares 56 = .ok (.istore 4, 2) := by decide +kernel
theorem dX12_shares_58 : decode cX12_shares 58 = .ok (.iconst 0, 1) := by decide +kernel
theorem dX12_shares_59 : decode cX12_shares 59 = .ok (.istore 5, 2) := by decide +kernel
theorem dX12_shares_61 : decode cX12_shares 61 = .ok (.iload 5, 2) := by decide +kernel
theorem dX12_shares_63 : decode cX12_shares 63 = .ok (.aload_n 0, 1) := by decide +kernel
theorem dX12_shares_64 : decode cX12_shares 64 = .ok (.getfield 16, 3) := by decide +kernel
theorem dX12_shares_67 : decode cX12_shares 67 = .ok (.iload_n 2, 1) := by decide +kernel
theorem dX12_shares_68 : decode cX12_shares 68 = .ok (.iaload, 1) := by decide +kernel
theorem dX12_shares_69 : decode cX12_shares 69 = .ok (.if_icmp .ge 212, 3) := by decide +kernel
theorem dX12_shares_72 : decode cX12_shares 72 = .ok (.aload_n 0, 1) := by decide +kernel
theorem dX12_shares_73 : decode cX12_shares 73 = .ok (.getfield 19, 3) := by decide +kernel
theorem dX12_shares_76 : decode cX12_shares 76 = .ok (.iconst 3, 1) := by decide +kernel
theorem dX12_shares_77 : decode cX12_shares 77 = .ok (.iload_n 2, 1) := by decide +kernel
theorem dX12_shares_78 : decode cX12_shares 78 = .ok (.imul, 1) := by decide +kernel
theorem dX12_shares_79 : decode cX12_shares 79 = .ok (.iload 5, 2) := by decide +kernel
theorem dX12_shares_81 : decode cX12_shares 81 = .ok (.iadd, 1) := by decide +kernel
theorem dX12_shares_82 : decode cX12_shares 82 = .ok (.iaload, 1) := by decide +kernel
theorem dX12_shares_83 : decode cX12_shares 83 = .ok (.istore 6, 2) := by decide +kernel
theorem dX12_shares_85 : decode cX12_shares 85 = .ok (.aload_n 0, 1) := by decide +kernel
theorem dX12_shares_86 : decode cX12_shares 86 = .ok (.getfield 7, 3) := by decide +kernel
theorem dX12_shares_89 : decode cX12_shares 89 = .ok (.iload 6, 2) := by decide +kernel
theorem dX12_shares_91 : decode cX12_shares 91 = .ok (.iaload, 1) := by decide +kernel
theorem dX12_shares_92 : decode cX12_shares 92 = .ok (.aload_n 0, 1) := by decide +kernel
theorem dX12_shares_93 : decode cX12_shares 93 = .ok (.getfield 74, 3) := by decide +kernel
theorem dX12_shares_96 : decode cX12_shares 96 = .ok (.iload_n 1, 1) := by decide +kernel
theorem dX12_shares_97 : decode cX12_shares 97 = .ok (.iaload, 1) := by decide +kernel
theorem dX12_shares_98 : decode cX12_shares 98 = .ok (.if_icmp .eq 26, 3) := by decide +kernel
theorem dX12_shares_101 : decode cX12_shares 101 = .ok (.aload_n 0, 1) := by decide +kernel
theorem dX12_shares_102 : decode cX12_shares 102 = .ok (.getfield 135, 3) := by decide +kernel
theorem dX12_shares_105 : decode cX12_shares 105 = .ok (.aload_n 0, 1) := by decide +kernel
theorem dX12_shares_106 : decode cX12_shares 106 = .ok (.getfield 416, 3) := by decide +kernel
theorem dX12_shares_109 : decode cX12_shares 109 = .ok (.iaload, 1) := by decide +kernel
theorem dX12_shares_110 : decode cX12_shares 110 = .ok (.aload_n 0, 1) := by decide +kernel
theorem dX12_shares_111 : decode cX12_shares 111 = .ok (.getfield 7, 3) := by decide +kernel
theorem dX12_shares_114 : decode cX12_shares 114 = .ok (.iload 6, 2) := by decide +kernel
theorem dX12_shares_116 : decode cX12_shares 116 = .ok (.iaload, 1) := by decide +kernel
theorem dX12_shares_117 : decode cX12_shares 117 = .ok (.ishr, 1) := by decide +kernel
theorem dX12_shares_118 : decode cX12_shares 118 = .ok (.iconst 1, 1) := by decide +kernel
theorem dX12_shares_119 : decode cX12_shares 119 = .ok (.iand, 1) := by decide +kernel
theorem dX12_shares_120 : decode cX12_shares 120 = .ok (.iconst 1, 1) := by decide +kernel
theorem dX12_shares_121 : decode cX12_shares 121 = .ok (.if_icmp .ne 7, 3) := by decide +kernel
theorem dX12_shares_124 : decode cX12_shares 124 = .ok (.iconst 1, 1) := by decide +kernel
theorem dX12_shares_125 : decode cX12_shares 125 = .ok (.goto 4, 3) := by decide +kernel
theorem dX12_shares_128 : decode cX12_shares 128 = .ok (.iconst 0, 1) := by decide +kernel
theorem dX12_shares_129 : decode cX12_shares 129 = .ok (.istore 7, 2) := by decide +kernel
theorem dX12_shares_131 : decode cX12_shares 131 = .ok (.aload_n 0, 1) := by decide +kernel
theorem dX12_shares_132 : decode cX12_shares 132 = .ok (.getfield 159, 3) := by decide +kernel
theorem dX12_shares_135 : decode cX12_shares 135 = .ok (.iload 6, 2) := by decide +kernel
theorem dX12_shares_137 : decode cX12_shares 137 = .ok (.iaload, 1) := by decide +kernel
theorem dX12_shares_138 : decode cX12_shares 138 = .ok (.iconst (-1), 1) := by decide +kernel
theorem dX12_shares_139 : decode cX12_shares 139 = .ok (.if_icmp .eq 26, 3) := by decide +kernel
theorem dX12_shares_142 : decode cX12_shares 142 = .ok (.aload_n 0, 1) := by decide +kernel
theorem dX12_shares_143 : decode cX12_shares 143 = .ok (.getfield 68, 3) := by decide +kernel
theorem dX12_shares_146 : decode cX12_shares 146 = .ok (.iload_n 1, 1) := by decide +kernel
theorem dX12_shares_147 : decode cX12_shares 147 = .ok (.iaload, 1) := by decide +kernel
theorem dX12_shares_148 : decode cX12_shares 148 = .ok (.aload_n 0, 1) := by decide +kernel
theorem dX12_shares_149 : decode cX12_shares 149 = .ok (.getfield 159, 3) := by decide +kernel
theorem dX12_shares_152 : decode cX12_shares 152 = .ok (.iload 6, 2) := by decide +kernel
theorem dX12_shares_154 : decode cX12_shares 154 = .ok (.iaload, 1) := by decide +kernel
theorem dX12_shares_155 : decode cX12_shares 155 = .ok (.iload 4, 2) := by decide +kernel
theorem dX12_shares_157 : decode cX12_shares 157 = .ok (.iadd, 1) := by decide +kernel
theorem dX12_shares_158 : decode cX12_shares 158 = .ok (.if_icmp .lt 7, 3) := by decide +kernel
theorem dX12_shares_161 : decode cX12_shares 161 = .ok (.iconst 1, 1) := by decide +kernel
theorem dX12_shares_162 : decode cX12_shares 162 = .ok (.goto 4, 3) := by decide +kernel
theorem dX12_shares_165 : decode cX12_shares 165 = .ok (.iconst 0, 1) := by decide +kernel
theorem dX12_shares_166 : decode cX12_shares 166 = .ok (.istore 8, 2) := by decide +kernel
theorem dX12_shares_168 : decode cX12_shares 168 = .ok (.aload_n 0, 1) := by decide +kernel
theorem dX12_shares_169 : decode cX12_shares 169 = .ok (.getfield 159, 3) := by decide +kernel
theorem dX12_shares_172 : decode cX12_shares 172 = .ok (.iload 6, 2) := by decide +kernel
theorem dX12_shares_174 : decode cX12_shares 174 = .ok (.iaload, 1) := by decide +kernel
theorem dX12_shares_175 : decode cX12_shares 175 = .ok (.iconst (-1), 1) := by decide +kernel
theorem dX12_shares_176 : decode cX12_shares 176 = .ok (.if_icmp .eq 26, 3) := by decide +kernel
theorem dX12_shares_179 : decode cX12_shares 179 = .ok (.aload_n 0, 1) := by decide +kernel
theorem dX12_shares_180 : decode cX12_shares 180 = .ok (.getfield 68, 3) := by decide +kernel
theorem dX12_shares_183 : decode cX12_shares 183 = .ok (.iload_n 1, 1) := by decide +kernel
theorem dX12_shares_184 : decode cX12_shares 184 = .ok (.iaload, 1) := by decide +kernel
theorem dX12_shares_185 : decode cX12_shares 185 = .ok (.aload_n 0, 1) := by decide +kernel
theorem dX12_shares_186 : decode cX12_shares 186 = .ok (.getfield 156, 3) := by decide +kernel
theorem dX12_shares_189 : decode cX12_shares 189 = .ok (.iload 6, 2) := by decide +kernel
theorem dX12_shares_191 : decode cX12_shares 191 = .ok (.iaload, 1) := by decide +kernel
theorem dX12_shares_192 : decode cX12_shares 192 = .ok (.iload 4, 2) := by decide +kernel
theorem dX12_shares_194 : decode cX12_shares 194 = .ok (.iadd, 1) := by decide +kernel
theorem dX12_shares_195 : decode cX12_shares 195 = .ok (.if_icmp .lt 7, 3) := by decide +kernel
theorem dX12_shares_198 : decode cX12_shares 198 = .ok (.iconst 1, 1) := by decide +kernel
theorem dX12_shares_199 : decode cX12_shares 199 = .ok (.goto 4, 3) := by decide +kernel
theorem dX12_shares_202 : decode cX12_shares 202 = .ok (.iconst 0, 1) := by decide +kernel
theorem dX12_shares_203 : decode cX12_shares 203 = .ok (.istore 9, 2) := by decide +kernel
theorem dX12_shares_205 : decode cX12_shares 205 = .ok (.aload_n 0, 1) := by decide +kernel
theorem dX12_shares_206 : decode cX12_shares 206 = .ok (.getfield 177, 3) := by decide +kernel
theorem dX12_shares_209 : decode cX12_shares 209 = .ok (.iload 6, 2) := by decide +kernel
theorem dX12_shares_211 : decode cX12_shares 211 = .ok (.iload 7, 2) := by decide +kernel
theorem dX12_shares_213 : decode cX12_shares 213 = .ok (.ifCond .eq 8, 3) := by decide +kernel
theorem dX12_shares_216 : decode cX12_shares 216 = .ok (.iload 8, 2) := by decide +kernel
theorem dX12_shares_218 : decode cX12_shares 218 = .ok (.ifCond .eq 7, 3) := by decide +kernel
theorem dX12_shares_221 : decode cX12_shares 221 = .ok (.iconst 0, 1) := by decide +kernel
theorem dX12_shares_222 : decode cX12_shares 222 = .ok (.goto 13, 3) := by decide +kernel
theorem dX12_shares_225 : decode cX12_shares 225 = .ok (.iload 9, 2) := by decide +kernel
theorem dX12_shares_227 : decode cX12_shares 227 = .ok (.ifCond .eq 7, 3) := by decide +kernel
theorem dX12_shares_230 : decode cX12_shares 230 = .ok (.iconst 2, 1) := by decide +kernel
theorem dX12_shares_231 : decode cX12_shares 231 = .ok (.goto 4, 3) := by decide +kernel
theorem dX12_shares_234 : decode cX12_shares 234 = .ok (.iconst 1, 1) := by decide +kernel
theorem dX12_shares_235 : decode cX12_shares 235 = .ok (.iastore, 1) := by decide +kernel
theorem dX12_shares_236 : decode cX12_shares 236 = .ok (.aload_n 0, 1) := by decide +kernel
theorem dX12_shares_237 : decode cX12_shares 237 = .ok (.getfield 177, 3) := by decide +kernel
theorem dX12_shares_240 : decode cX12_shares 240 = .ok (.iload 6, 2) := by decide +kernel
theorem dX12_shares_242 : decode cX12_shares 242 = .ok (.iaload, 1) := by decide +kernel
theorem dX12_shares_243 : decode cX12_shares 243 = .ok (.ifCond .eq 32, 3) := by decide +kernel
theorem dX12_shares_246 : decode cX12_shares 246 = .ok (.aload_n 0, 1) := by decide +kernel
theorem dX12_shares_247 : decode cX12_shares 247 = .ok (.getfield 174, 3) := by decide +kernel
theorem dX12_shares_250 : decode cX12_shares 250 = .ok (.iload 6, 2) := by decide +kernel
theorem dX12_shares_252 : decode cX12_shares 252 = .ok (.aload_n 0, 1) := by decide +kernel
theorem dX12_shares_253 : decode cX12_shares 253 = .ok (.getfield 448, 3) := by decide +kernel
theorem dX12_shares_256 : decode cX12_shares 256 = .ok (.i2l, 1) := by decide +kernel
theorem dX12_shares_257 : decode cX12_shares 257 = .ok (.aload_n 0, 1) := by decide +kernel
theorem dX12_shares_258 : decode cX12_shares 258 = .ok (.getfield 22, 3) := by decide +kernel
theorem dX12_shares_261 : decode cX12_shares 261 = .ok (.iconst 3, 1) := by decide +kernel
theorem dX12_shares_262 : decode cX12_shares 262 = .ok (.iload_n 2, 1) := by decide +kernel
theorem dX12_shares_263 : decode cX12_shares 263 = .ok (.imul, 1) := by decide +kernel
theorem dX12_shares_264 : decode cX12_shares 264 = .ok (.iload 5, 2) := by decide +kernel
theorem dX12_shares_266 : decode cX12_shares 266 = .ok (.iadd, 1) := by decide +kernel
theorem dX12_shares_267 : decode cX12_shares 267 = .ok (.iaload, 1) := by decide +kernel
theorem dX12_shares_268 : decode cX12_shares 268 = .ok (.i2l, 1) := by decide +kernel
theorem dX12_shares_269 : decode cX12_shares 269 = .ok (.lmul, 1) := by decide +kernel
theorem dX12_shares_270 : decode cX12_shares 270 = .ok (.iload_n 3, 1) := by decide +kernel
theorem dX12_shares_271 : decode cX12_shares 271 = .ok (.i2l, 1) := by decide +kernel
theorem dX12_shares_272 : decode cX12_shares 272 = .ok (.ldiv, 1) := by decide +kernel
theorem dX12_shares_273 : decode cX12_shares 273 = .ok (.l2i, 1) := by decide +kernel
theorem dX12_shares_274 : decode cX12_shares 274 = .ok (.iastore, 1) := by decide +kernel
theorem dX12_shares_275 : decode cX12_shares 275 = .ok (.iinc 5 1, 3) := by decide +kernel
theorem dX12_shares_278 : decode cX12_shares 278 = .ok (.goto (-217), 3) := by decide +kernel
theorem dX12_shares_281 : decode cX12_shares 281 = .ok (.return_, 1) := by decide +kernel
theorem dX12_passes_0 : decode cX12_passes 0 = .ok (.iconst 0, 1) := by decide +kernel
theorem dX12_passes_1 : decode cX12_passes 1 = .ok (.istore_n 2, 1) := by decide +kernel
theorem dX12_passes_2 : decode cX12_passes 2 = .ok (.iload_n 2, 1) := by decide +kernel
theorem dX12_passes_3 : decode cX12_passes 3 = .ok (.bipush 30, 2) := by decide +kernel
theorem dX12_passes_5 : decode cX12_passes 5 = .ok (.if_icmp .ge 21, 3) := by decide +kernel
theorem dX12_passes_8 : decode cX12_passes 8 = .ok (.aload_n 0, 1) := by decide +kernel
theorem dX12_passes_9 : decode cX12_passes 9 = .ok (.getfield 189, 3) := by decide +kernel
theorem dX12_passes_12 : decode cX12_passes 12 = .ok (.iload_n 2, 1) := by decide +kernel
theorem dX12_passes_13 : decode cX12_passes 13 = .ok (.aload_n 0, 1) := by decide +kernel
theorem dX12_passes_14 : decode cX12_passes 14 = .ok (.getfield 174, 3) := by decide +kernel
theorem dX12_passes_17 : decode cX12_passes 17 = .ok (.iload_n 2, 1) := by decide +kernel
theorem dX12_passes_18 : decode cX12_passes 18 = .ok (.iaload, 1) := by decide +kernel
theorem dX12_passes_19 : decode cX12_passes 19 = .ok (.iastore, 1) := by decide +kernel
theorem dX12_passes_20 : decode cX12_passes 20 = .ok (.iinc 2 1, 3) := by decide +kernel
theorem dX12_passes_23 : decode cX12_passes 23 = .ok (.goto (-21), 3) := by decide +kernel
theorem dX12_passes_26 : decode cX12_passes 26 = .ok (.iconst 0, 1) := by decide +kernel
theorem dX12_passes_27 : decode cX12_passes 27 = .ok (.istore_n 2, 1) := by decide +kernel
theorem dX12_passes_28 : decode cX12_passes 28 = .ok (.iload_n 2, 1) := by decide +kernel
theorem dX12_passes_29 : decode cX12_passes 29 = .ok (.bipush 8, 2) := by decide +kernel
theorem dX12_passes_31 : decode cX12_passes 31 = .ok (.if_icmp .ge 76, 3) := by decide +kernel
theorem dX12_passes_34 : decode cX12_passes 34 = .ok (.iconst 0, 1) := by decide +kernel
theorem dX12_passes_35 : decode cX12_passes 35 = .ok (.istore_n 3, 1) := by decide +kernel
theorem dX12_passes_36 : decode cX12_passes 36 = .ok (.iload_n 3, 1) := by decide +kernel
theorem dX12_passes_37 : decode cX12_passes 37 = .ok (.bipush 30, 2) := by decide +kernel
theorem dX12_passes_39 : decode cX12_passes 39 = .ok (.if_icmp .ge 16, 3) := by decide +kernel
theorem dX12_passes_42 : decode cX12_passes 42 = .ok (.aload_n 0, 1) := by decide +kernel
theorem dX12_passes_43 : decode cX12_passes 43 = .ok (.getfield 192, 3) := by decide +kernel
theorem dX12_passes_46 : decode cX12_passes 46 = .ok (.iload_n 3, 1) := by decide +kernel
theorem dX12_passes_47 : decode cX12_passes 47 = .ok (.iconst 0, 1) := by decide +kernel
theorem dX12_passes_48 : decode cX12_passes 48 = .ok (.iastore, 1) := by decide +kernel
theorem dX12_passes_49 : decode cX12_passes 49 = .ok (.iinc 3 1, 3) := by decide +kernel
theorem dX12_passes_52 : decode cX12_passes 52 = .ok (.goto (-16), 3) := by decide +kernel
theorem dX12_passes_55 : decode cX12_passes 55 = .ok (.iconst 0, 1) := by decide +kernel
theorem dX12_passes_56 : decode cX12_passes 56 = .ok (.istore_n 3, 1) := by decide +kernel
theorem dX12_passes_57 : decode cX12_passes 57 = .ok (.iload_n 3, 1) := by decide +kernel
theorem dX12_passes_58 : decode cX12_passes 58 = .ok (.bipush 30, 2) := by decide +kernel
theorem dX12_passes_60 : decode cX12_passes 60 = .ok (.if_icmp .ge 15, 3) := by decide +kernel
theorem dX12_passes_63 : decode cX12_passes 63 = .ok (.aload_n 0, 1) := by decide +kernel
theorem dX12_passes_64 : decode cX12_passes 64 = .ok (.iload_n 3, 1) := by decide +kernel
theorem dX12_passes_65 : decode cX12_passes 65 = .ok (.iload_n 1, 1) := by decide +kernel
theorem dX12_passes_66 : decode cX12_passes 66 = .ok (.invokevirtual 465, 3) := by decide +kernel
theorem dX12_passes_69 : decode cX12_passes 69 = .ok (.iinc 3 1, 3) := by decide +kernel
theorem dX12_passes_72 : decode cX12_passes 72 = .ok (.goto (-15), 3) := by decide +kernel
theorem dX12_passes_75 : decode cX12_passes 75 = .ok (.iconst 0, 1) := by decide +kernel
theorem dX12_passes_76 : decode cX12_passes 76 = .ok (.istore_n 3, 1) := by decide +kernel
theorem dX12_passes_77 : decode cX12_passes 77 = .ok (.iload_n 3, 1) := by decide +kernel
theorem dX12_passes_78 : decode cX12_passes 78 = .ok (.bipush 30, 2) := by decide +kernel
theorem dX12_passes_80 : decode cX12_passes 80 = .ok (.if_icmp .ge 21, 3) := by decide +kernel
theorem dX12_passes_83 : decode cX12_passes 83 = .ok (.aload_n 0, 1) := by decide +kernel
theorem dX12_passes_84 : decode cX12_passes 84 = .ok (.getfield 189, 3) := by decide +kernel
theorem dX12_passes_87 : decode cX12_passes 87 = .ok (.iload_n 3, 1) := by decide +kernel
theorem dX12_passes_88 : decode cX12_passes 88 = .ok (.aload_n 0, 1) := by decide +kernel
theorem dX12_passes_89 : decode cX12_passes 89 = .ok (.getfield 192, 3) := by decide +kernel
theorem dX12_passes_92 : decode cX12_passes 92 = .ok (.iload_n 3, 1) := by decide +kernel
theorem dX12_passes_93 : decode cX12_passes 93 = .ok (.iaload, 1) := by decide +kernel
theorem dX12_passes_94 : decode cX12_passes 94 = .ok (.iastore, 1) := by decide +kernel
theorem dX12_passes_95 : decode cX12_passes 95 = .ok (.iinc 3 1, 3) := by decide +kernel
theorem dX12_passes_98 : decode cX12_passes 98 = .ok (.goto (-21), 3) := by decide +kernel
theorem dX12_passes_101 : decode cX12_passes 101 = .ok (.iinc 2 1, 3) := by decide +kernel
theorem dX12_passes_104 : decode cX12_passes 104 = .ok (.goto (-76), 3) := by decide +kernel
theorem dX12_passes_107 : decode cX12_passes 107 = .ok (.iconst 0, 1) := by decide +kernel
theorem dX12_passes_108 : decode cX12_passes 108 = .ok (.istore_n 2, 1) := by decide +kernel
theorem dX12_passes_109 : decode cX12_passes 109 = .ok (.iload_n 2, 1) := by decide +kernel
theorem dX12_passes_110 : decode cX12_passes 110 = .ok (.bipush 30, 2) := by decide +kernel
theorem dX12_passes_112 : decode cX12_passes 112 = .ok (.if_icmp .ge 48, 3) := by decide +kernel
theorem dX12_passes_115 : decode cX12_passes 115 = .ok (.aload_n 0, 1) := by decide +kernel
theorem dX12_passes_116 : decode cX12_passes 116 = .ok (.iload_n 2, 1) := by decide +kernel
theorem dX12_passes_117 : decode cX12_passes 117 = .ok (.iload_n 1, 1) := by decide +kernel
theorem dX12_passes_118 : decode cX12_passes 118 = .ok (.invokevirtual 468, 3) := by decide +kernel
theorem dX12_passes_121 : decode cX12_passes 121 = .ok (.ifCond .eq 21, 3) := by decide +kernel
theorem dX12_passes_124 : decode cX12_passes 124 = .ok (.aload_n 0, 1) := by decide +kernel
theorem dX12_passes_125 : decode cX12_passes 125 = .ok (.dup, 1) := by decide +kernel
theorem dX12_passes_126 : decode cX12_passes 126 = .ok (.getfield 450, 3) := by decide +kernel
theorem dX12_passes_129 : decode cX12_passes 129 = .ok (.aload_n 0, 1) := by decide +kernel
theorem dX12_passes_130 : decode cX12_passes 130 = .ok (.getfield 189, 3) := by decide +kernel
theorem dX12_passes_133 : decode cX12_passes 133 = .ok (.iload_n 2, 1) := by decide +kernel
theorem dX12_passes_134 : decode cX12_passes 134 = .ok (.iaload, 1) := by decide +kernel
theorem dX12_passes_135 : decode cX12_passes 135 = .ok (.iadd, 1) := by decide +kernel
theorem dX12_passes_136 : decode cX12_passes 136 = .ok (.putfield 450, 3) := by decide +kernel
theorem dX12_passes_139 : decode cX12_passes 139 = .ok (.goto 15, 3) := by decide +kernel
theorem dX12_passes_142 : decode cX12_passes 142 = .ok (.aload_n 0, 1) := by decide +kernel
theorem dX12_passes_143 : decode cX12_passes 143 = .ok (.getfield 180, 3) := by decide +kernel
theorem dX12_passes_146 : decode cX12_passes 146 = .ok (.iload_n 2, 1) := by decide +kernel
theorem dX12_passes_147 : decode cX12_passes 147 = .ok (.aload_n 0, 1) := by decide +kernel
theorem dX12_passes_148 : decode cX12_passes 148 = .ok (.getfield 189, 3) := by decide +kernel
theorem dX12_passes_151 : decode cX12_passes 151 = .ok (.iload_n 2, 1) := by decide +kernel
theorem dX12_passes_152 : decode cX12_passes 152 = .ok (.iaload, 1) := by decide +kernel
theorem dX12_passes_153 : decode cX12_passes 153 = .ok (.iastore, 1) := by decide +kernel
theorem dX12_passes_154 : decode cX12_passes 154 = .ok (.iinc 2 1, 3) := by decide +kernel
theorem dX12_passes_157 : decode cX12_passes 157 = .ok (.goto (-48), 3) := by decide +kernel
theorem dX12_passes_160 : decode cX12_passes 160 = .ok (.return_, 1) := by decide +kernel
theorem dX12_passesOn_0 : decode cX12_passesOn 0 = .ok (.aload_n 0, 1) := by decide +kernel
theorem dX12_passesOn_1 : decode cX12_passesOn 1 = .ok (.getfield 189, 3) := by decide +kernel
theorem dX12_passesOn_4 : decode cX12_passesOn 4 = .ok (.iload_n 1, 1) := by decide +kernel
theorem dX12_passesOn_5 : decode cX12_passesOn 5 = .ok (.iaload, 1) := by decide +kernel
theorem dX12_passesOn_6 : decode cX12_passesOn 6 = .ok (.ifCond .ne 4, 3) := by decide +kernel
theorem dX12_passesOn_9 : decode cX12_passesOn 9 = .ok (.return_, 1) := by decide +kernel
theorem dX12_passesOn_10 : decode cX12_passesOn 10 = .ok (.aload_n 0, 1) := by decide +kernel
theorem dX12_passesOn_11 : decode cX12_passesOn 11 = .ok (.iload_n 1, 1) := by decide +kernel
theorem dX12_passesOn_12 : decode cX12_passesOn 12 = .ok (.iload_n 2, 1) := by decide +kernel
theorem dX12_passesOn_13 : decode cX12_passesOn 13 = .ok (.invokevirtual 468, 3) := by decide +kernel
theorem dX12_passesOn_16 : decode cX12_passesOn 16 = .ok (.ifCond .ne 19, 3) := by decide +kernel
theorem dX12_passesOn_19 : decode cX12_passesOn 19 = .ok (.aload_n 0, 1) := by decide +kernel
theorem dX12_passesOn_20 : decode cX12_passesOn 20 = .ok (.getfield 192, 3) := by decide +kernel
theorem dX12_passesOn_23 : decode cX12_passesOn 23 = .ok (.iload_n 1, 1) := by decide +kernel
theorem dX12_passesOn_24 : decode cX12_passesOn 24 = .ok (.dup2, 1) := by decide +kernel
theorem dX12_passesOn_25 : decode cX12_passesOn 25 = .ok (.iaload, 1) := by decide +kernel
theorem dX12_passesOn_26 : decode cX12_passesOn 26 = .ok (.aload_n 0, 1) := by decide +kernel
theorem dX12_passesOn_27 : decode cX12_passesOn 27 = .ok (.getfield 189, 3) := by decide +kernel
theorem dX12_passesOn_30 : decode cX12_passesOn 30 = .ok (.iload_n 1, 1) := by decide +kernel
theorem dX12_passesOn_31 : decode cX12_passesOn 31 = .ok (.iaload, 1) := by decide +kernel
theorem dX12_passesOn_32 : decode cX12_passesOn 32 = .ok (.iadd, 1) := by decide +kernel
theorem dX12_passesOn_33 : decode cX12_passesOn 33 = .ok (.iastore, 1) := by decide +kernel
theorem dX12_passesOn_34 : decode cX12_passesOn 34 = .ok (.return_, 1) := by decide +kernel
theorem dX12_passesOn_35 : decode cX12_passesOn 35 = .ok (.aload_n 0, 1) := by decide +kernel
theorem dX12_passesOn_36 : decode cX12_passesOn 36 = .ok (.getfield 189, 3) := by decide +kernel
theorem dX12_passesOn_39 : decode cX12_passesOn 39 = .ok (.iload_n 1, 1) := by decide +kernel
theorem dX12_passesOn_40 : decode cX12_passesOn 40 = .ok (.iaload, 1) := by decide +kernel
theorem dX12_passesOn_41 : decode cX12_passesOn 41 = .ok (.istore_n 3, 1) := by decide +kernel
theorem dX12_passesOn_42 : decode cX12_passesOn 42 = .ok (.aload_n 0, 1) := by decide +kernel
theorem dX12_passesOn_43 : decode cX12_passesOn 43 = .ok (.getfield 162, 3) := by decide +kernel
theorem dX12_passesOn_46 : decode cX12_passesOn 46 = .ok (.iload_n 1, 1) := by decide +kernel
theorem dX12_passesOn_47 : decode cX12_passesOn 47 = .ok (.iaload, 1) := by decide +kernel
theorem dX12_passesOn_48 : decode cX12_passesOn 48 = .ok (.istore 4, 2) := by decide +kernel
theorem dX12_passesOn_50 : decode cX12_passesOn 50 = .ok (.iload 4, 2) := by decide +kernel
theorem dX12_passesOn_52 : decode cX12_passesOn 52 = .ok (.aload_n 0, 1) := by decide +kernel
theorem dX12_passesOn_53 : decode cX12_passesOn 53 = .ok (.getfield 162, 3) := by decide +kernel
theorem dX12_passesOn_56 : decode cX12_passesOn 56 = .ok (.iload_n 1, 1) := by decide +kernel
theorem dX12_passesOn_57 : decode cX12_passesOn 57 = .ok (.iconst 1, 1) := by decide +kernel
theorem dX12_passesOn_58 : decode cX12_passesOn 58 = .ok (.iadd, 1) := by decide +kernel
theorem dX12_passesOn_59 : decode cX12_passesOn 59 = .ok (.iaload, 1) := by decide +kernel
theorem dX12_passesOn_60 : decode cX12_passesOn 60 = .ok (.if_icmp .ge 68, 3) := by decide +kernel
theorem dX12_passesOn_63 : decode cX12_passesOn 63 = .ok (.aload_n 0, 1) := by decide +kernel
theorem dX12_passesOn_64 : decode cX12_passesOn 64 = .ok (.getfield 165, 3) := by decide +kernel
theorem dX12_passesOn_67 : decode cX12_passesOn 67 = .ok (.iload 4, 2) := by decide +kernel
theorem dX12_passesOn_69 : decode cX12_passesOn 69 = .ok (.iaload, 1) := by decide +kernel
theorem dX12_passesOn_70 : decode cX12_passesOn 70 = .ok (.istore 5, 2) := by decide +kernel
theorem dX12_passesOn_72 : decode cX12_passesOn 72 = .ok (.aload_n 0, 1) := by decide +kernel
theorem dX12_passesOn_73 : decode cX12_passesOn 73 = .ok (.getfield 189, 3) := by decide +kernel
theorem dX12_passesOn_76 : decode cX12_passesOn 76 = .ok (.iload_n 1, 1) := by decide +kernel
theorem dX12_passesOn_77 : decode cX12_passesOn 77 = .ok (.iaload, 1) := by decide +kernel
theorem dX12_passesOn_78 : decode cX12_passesOn 78 = .ok (.i2l, 1) := by decide +kernel
theorem dX12_passesOn_79 : decode cX12_passesOn 79 = .ok (.aload_n 0, 1) := by decide +kernel
theorem dX12_passesOn_80 : decode cX12_passesOn 80 = .ok (.getfield 77, 3) := by decide +kernel
theorem dX12_passesOn_83 : decode cX12_passesOn 83 = .ok (.iload 5, 2) := by decide +kernel
theorem dX12_passesOn_85 : decode cX12_passesOn 85 = .ok (.iaload, 1) := by decide +kernel
theorem dX12_passesOn_86 : decode cX12_passesOn 86 = .ok (.i2l, 1) := by decide +kernel
theorem dX12_passesOn_87 : decode cX12_passesOn 87 = .ok (.lmul, 1) := by decide +kernel
theorem dX12_passesOn_88 : decode cX12_passesOn 88 = .ok (.aload_n 0, 1) := by decide +kernel
theorem dX12_passesOn_89 : decode cX12_passesOn 89 = .ok (.getfield 80, 3) := by decide +kernel
theorem dX12_passesOn_92 : decode cX12_passesOn 92 = .ok (.iload 5, 2) := by decide +kernel
theorem dX12_passesOn_94 : decode cX12_passesOn 94 = .ok (.iaload, 1) := by decide +kernel
theorem dX12_passesOn_95 : decode cX12_passesOn 95 = .ok (.i2l, 1) := by decide +kernel
theorem dX12_passesOn_96 : decode cX12_passesOn 96 = .ok (.ldiv, 1) := by decide +kernel
theorem dX12_passesOn_97 : decode cX12_passesOn 97 = .ok (.l2i, 1) := by decide +kernel
theorem dX12_passesOn_98 : decode cX12_passesOn 98 = .ok (.istore 6, 2) := by decide +kernel
theorem dX12_passesOn_100 : decode cX12_passesOn 100 = .ok (.aload_n 0, 1) := by decide +kernel
theorem dX12_passesOn_101 : decode cX12_passesOn 101 = .ok (.getfield 192, 3) := by decide +kernel
theorem dX12_passesOn_104 : decode cX12_passesOn 104 = .ok (.aload_n 0, 1) := by decide +kernel
theorem dX12_passesOn_105 : decode cX12_passesOn 105 = .ok (.getfield 65, 3) := by decide +kernel
theorem dX12_passesOn_108 : decode cX12_passesOn 108 = .ok (.iload 5, 2) := by decide +kernel
theorem dX12_passesOn_110 : decode cX12_passesOn 110 = .ok (.iaload, 1) := by decide +kernel
theorem dX12_passesOn_111 : decode cX12_passesOn 111 = .ok (.dup2, 1) := by decide +kernel
theorem dX12_passesOn_112 : decode cX12_passesOn 112 = .ok (.iaload, 1) := by decide +kernel
theorem dX12_passesOn_113 : decode cX12_passesOn 113 = .ok (.iload 6, 2) := by decide +kernel
theorem dX12_passesOn_115 : decode cX12_passesOn 115 = .ok (.iadd, 1) := by decide +kernel
theorem dX12_passesOn_116 : decode cX12_passesOn 116 = .ok (.iastore, 1) := by decide +kernel
theorem dX12_passesOn_117 : decode cX12_passesOn 117 = .ok (.iload_n 3, 1) := by decide +kernel
theorem dX12_passesOn_118 : decode cX12_passesOn 118 = .ok (.iload 6, 2) := by decide +kernel
theorem dX12_passesOn_120 : decode cX12_passesOn 120 = .ok (.isub, 1) := by decide +kernel
theorem dX12_passesOn_121 : decode cX12_passesOn 121 = .ok (.istore_n 3, 1) := by decide +kernel
theorem dX12_passesOn_122 : decode cX12_passesOn 122 = .ok (.iinc 4 1, 3) := by decide +kernel
theorem dX12_passesOn_125 : decode cX12_passesOn 125 = .ok (.goto (-75), 3) := by decide +kernel
theorem dX12_passesOn_128 : decode cX12_passesOn 128 = .ok (.aload_n 0, 1) := by decide +kernel
theorem dX12_passesOn_129 : decode cX12_passesOn 129 = .ok (.dup, 1) := by decide +kernel
theorem dX12_passesOn_130 : decode cX12_passesOn 130 = .ok (.getfield 450, 3) := by decide +kernel
theorem dX12_passesOn_133 : decode cX12_passesOn 133 = .ok (.iload_n 3, 1) := by decide +kernel
theorem dX12_passesOn_134 : decode cX12_passesOn 134 = .ok (.iadd, 1) := by decide +kernel
theorem dX12_passesOn_135 : decode cX12_passesOn 135 = .ok (.putfield 450, 3) := by decide +kernel
theorem dX12_passesOn_138 : decode cX12_passesOn 138 = .ok (.return_, 1) := by decide +kernel
theorem dX12_pays_0 : decode cX12_pays 0 = .ok (.iconst 0, 1) := by decide +kernel
theorem dX12_pays_1 : decode cX12_pays 1 = .ok (.istore_n 3, 1) := by decide +kernel
theorem dX12_pays_2 : decode cX12_pays 2 = .ok (.iload_n 3, 1) := by decide +kernel
theorem dX12_pays_3 : decode cX12_pays 3 = .ok (.aload_n 0, 1) := by decide +kernel
theorem dX12_pays_4 : decode cX12_pays 4 = .ok (.getfield 253, 3) := by decide +kernel
theorem dX12_pays_7 : decode cX12_pays 7 = .ok (.if_icmp .ge 68, 3) := by decide +kernel
theorem dX12_pays_10 : decode cX12_pays 10 = .ok (.aload_n 0, 1) := by decide +kernel
theorem dX12_pays_11 : decode cX12_pays 11 = .ok (.getfield 56, 3) := by decide +kernel
theorem dX12_pays_14 : decode cX12_pays 14 = .ok (.iload_n 3, 1) := by decide +kernel
theorem dX12_pays_15 : decode cX12_pays 15 = .ok (.iaload, 1) := by decide +kernel
theorem dX12_pays_16 : decode cX12_pays 16 = .ok (.iconst 5, 1) := by decide +kernel
theorem dX12_pays_17 : decode cX12_pays 17 = .ok (.if_icmp .ne 52, 3) := by decide +kernel
theorem dX12_pays_20 : decode cX12_pays 20 = .ok (.aload_n 0, 1) := by decide +kernel
theorem dX12_pays_21 : decode cX12_pays 21 = .ok (.getfield 62, 3) := by decide +kernel
theorem dX12_pays_24 : decode cX12_pays 24 = .ok (.iload_n 3, 1) := by decide +kernel
theorem dX12_pays_25 : decode cX12_pays 25 = .ok (.iaload, 1) := by decide +kernel
theorem dX12_pays_26 : decode cX12_pays 26 = .ok (.iload_n 2, 1) := by decide +kernel
theorem dX12_pays_27 : decode cX12_pays 27 = .ok (.if_icmp .ne 42, 3) := by decide +kernel
theorem dX12_pays_30 : decode cX12_pays 30 = .ok (.aload_n 0, 1) := by decide +kernel
theorem dX12_pays_31 : decode cX12_pays 31 = .ok (.getfield 68, 3) := by decide +kernel
theorem dX12_pays_34 : decode cX12_pays 34 = .ok (.iload_n 3, 1) := by decide +kernel
theorem dX12_pays_35 : decode cX12_pays 35 = .ok (.iaload, 1) := by decide +kernel
theorem dX12_pays_36 : decode cX12_pays 36 = .ok (.aload_n 0, 1) := by decide +kernel
theorem dX12_pays_37 : decode cX12_pays 37 = .ok (.getfield 68, 3) := by decide +kernel
theorem dX12_pays_40 : decode cX12_pays 40 = .ok (.iload_n 1, 1) := by decide +kernel
theorem dX12_pays_41 : decode cX12_pays 41 = .ok (.iaload, 1) := by decide +kernel
theorem dX12_pays_42 : decode cX12_pays 42 = .ok (.if_icmp .gt 27, 3) := by decide +kernel
theorem dX12_pays_45 : decode cX12_pays 45 = .ok (.aload_n 0, 1) := by decide +kernel
theorem dX12_pays_46 : decode cX12_pays 46 = .ok (.iload_n 3, 1) := by decide +kernel
theorem dX12_pays_47 : decode cX12_pays 47 = .ok (.aload_n 0, 1) := by decide +kernel
theorem dX12_pays_48 : decode cX12_pays 48 = .ok (.getfield 398, 3) := by decide +kernel
theorem dX12_pays_51 : decode cX12_pays 51 = .ok (.invokevirtual 260, 3) := by decide +kernel
theorem dX12_pays_54 : decode cX12_pays 54 = .ok (.ifCond .eq 15, 3) := by decide +kernel
theorem dX12_pays_57 : decode cX12_pays 57 = .ok (.aload_n 0, 1) := by decide +kernel
theorem dX12_pays_58 : decode cX12_pays 58 = .ok (.getfield 186, 3) := by decide +kernel
theorem dX12_pays_61 : decode cX12_pays 61 = .ok (.iload_n 2, 1) := by decide +kernel
theorem dX12_pays_62 : decode cX12_pays 62 = .ok (.aload_n 0, 1) := by decide +kernel
theorem dX12_pays_63 : decode cX12_pays 63 = .ok (.getfield 65, 3) := by decide +kernel
theorem dX12_pays_66 : decode cX12_pays 66 = .ok (.iload_n 3, 1) := by decide +kernel
theorem dX12_pays_67 : decode cX12_pays 67 = .ok (.iaload, 1) := by decide +kernel
theorem dX12_pays_68 : decode cX12_pays 68 = .ok (.iastore, 1) := by decide +kernel
theorem dX12_pays_69 : decode cX12_pays 69 = .ok (.iinc 3 1, 3) := by decide +kernel
theorem dX12_pays_72 : decode cX12_pays 72 = .ok (.goto (-70), 3) := by decide +kernel
theorem dX12_pays_75 : decode cX12_pays 75 = .ok (.aload_n 0, 1) := by decide +kernel
theorem dX12_pays_76 : decode cX12_pays 76 = .ok (.getfield 186, 3) := by decide +kernel
theorem dX12_pays_79 : decode cX12_pays 79 = .ok (.iload_n 2, 1) := by decide +kernel
theorem dX12_pays_80 : decode cX12_pays 80 = .ok (.iaload, 1) := by decide +kernel
theorem dX12_pays_81 : decode cX12_pays 81 = .ok (.iconst (-1), 1) := by decide +kernel
theorem dX12_pays_82 : decode cX12_pays 82 = .ok (.if_icmp .eq 42, 3) := by decide +kernel
theorem dX12_pays_85 : decode cX12_pays 85 = .ok (.aload_n 0, 1) := by decide +kernel
theorem dX12_pays_86 : decode cX12_pays 86 = .ok (.getfield 183, 3) := by decide +kernel
theorem dX12_pays_89 : decode cX12_pays 89 = .ok (.iload_n 2, 1) := by decide +kernel
theorem dX12_pays_90 : decode cX12_pays 90 = .ok (.aload_n 0, 1) := by decide +kernel
theorem dX12_pays_91 : decode cX12_pays 91 = .ok (.getfield 180, 3) := by decide +kernel
theorem dX12_pays_94 : decode cX12_pays 94 = .ok (.iload_n 2, 1) := by decide +kernel
theorem dX12_pays_95 : decode cX12_pays 95 = .ok (.iaload, 1) := by decide +kernel
theorem dX12_pays_96 : decode cX12_pays 96 = .ok (.aload_n 0, 1) := by decide +kernel
theorem dX12_pays_97 : decode cX12_pays 97 = .ok (.getfield 180, 3) := by decide +kernel
theorem dX12_pays_100 : decode cX12_pays 100 = .ok (.iload_n 2, 1) := by decide +kernel
theorem dX12_pays_101 : decode cX12_pays 101 = .ok (.iaload, 1) := by decide +kernel
theorem dX12_pays_102 : decode cX12_pays 102 = .ok (.i2l, 1) := by decide +kernel
theorem dX12_pays_103 : decode cX12_pays 103 = .ok (.aload_n 0, 1) := by decide +kernel
theorem dX12_pays_104 : decode cX12_pays 104 = .ok (.getfield 44, 3) := by decide +kernel
theorem dX12_pays_107 : decode cX12_pays 107 = .ok (.aload_n 0, 1) := by decide +kernel
theorem dX12_pays_108 : decode cX12_pays 108 = .ok (.getfield 186, 3) := by decide +kernel
theorem dX12_pays_111 : decode cX12_pays 111 = .ok (.iload_n 2, 1) := by decide +kernel
theorem dX12_pays_112 : decode cX12_pays 112 = .ok (.iaload, 1) := by decide +kernel
theorem dX12_pays_113 : decode cX12_pays 113 = .ok (.iaload, 1) := by decide +kernel
theorem dX12_pays_114 : decode cX12_pays 114 = .ok (.i2l, 1) := by decide +kernel
theorem dX12_pays_115 : decode cX12_pays 115 = .ok (.lmul, 1) := by decide +kernel
theorem dX12_pays_116 : decode cX12_pays 116 = .ok (.ldc2_w 431, 3) := by decide +kernel
theorem dX12_pays_119 : decode cX12_pays 119 = .ok (.ldiv, 1) := by decide +kernel
theorem dX12_pays_120 : decode cX12_pays 120 = .ok (.l2i, 1) := by decide +kernel
theorem dX12_pays_121 : decode cX12_pays 121 = .ok (.isub, 1) := by decide +kernel
theorem dX12_pays_122 : decode cX12_pays 122 = .ok (.iastore, 1) := by decide +kernel
theorem dX12_pays_123 : decode cX12_pays 123 = .ok (.return_, 1) := by decide +kernel
theorem dX12_pays_124 : decode cX12_pays 124 = .ok (.iconst 0, 1) := by decide +kernel
theorem dX12_pays_125 : decode cX12_pays 125 = .ok (.istore_n 3, 1) := by decide +kernel
theorem dX12_pays_126 : decode cX12_pays 126 = .ok (.iconst 0, 1) := by decide +kernel
theorem dX12_pays_127 : decode cX12_pays 127 = .ok (.istore 4, 2) := by decide +kernel
theorem dX12_pays_129 : decode cX12_pays 129 = .ok (.iload 4, 2) := by decide +kernel
theorem dX12_pays_131 : decode cX12_pays 131 = .ok (.aload_n 0, 1) := by decide +kernel
theorem dX12_pays_132 : decode cX12_pays 132 = .ok (.getfield 273, 3) := by decide +kernel
theorem dX12_pays_135 : decode cX12_pays 135 = .ok (.if_icmp .ge 81, 3) := by decide +kernel
theorem dX12_pays_138 : decode cX12_pays 138 = .ok (.iload_n 3, 1) := by decide +kernel
theorem dX12_pays_139 : decode cX12_pays 139 = .ok (.ifCond .ne 65, 3) := by decide +kernel
theorem dX12_pays_142 : decode cX12_pays 142 = .ok (.aload_n 0, 1) := by decide +kernel
theorem dX12_pays_143 : decode cX12_pays 143 = .ok (.getfield 89, 3) := by decide +kernel
theorem dX12_pays_146 : decode cX12_pays 146 = .ok (.iload 4, 2) := by decide +kernel
theorem dX12_pays_148 : decode cX12_pays 148 = .ok (.iaload, 1) := by decide +kernel
theorem dX12_pays_149 : decode cX12_pays 149 = .ok (.iload_n 2, 1) := by decide +kernel
theorem dX12_pays_150 : decode cX12_pays 150 = .ok (.if_icmp .ne 58, 3) := by decide +kernel
theorem dX12_pays_153 : decode cX12_pays 153 = .ok (.aload_n 0, 1) := by decide +kernel
theorem dX12_pays_154 : decode cX12_pays 154 = .ok (.getfield 92, 3) := by decide +kernel
theorem dX12_pays_157 : decode cX12_pays 157 = .ok (.iload 4, 2) := by decide +kernel
theorem dX12_pays_159 : decode cX12_pays 159 = .ok (.iaload, 1) := by decide +kernel
theorem dX12_pays_160 : decode cX12_pays 160 = .ok (.iload_n 1, 1) := by decide +kernel
theorem dX12_pays_161 : decode cX12_pays 161 = .ok (.if_icmp .ne 47, 3) := by decide +kernel
theorem dX12_pays_164 : decode cX12_pays 164 = .ok (.aload_n 0, 1) := by decide +kernel
theorem dX12_pays_165 : decode cX12_pays 165 = .ok (.getfield 95, 3) := by decide +kernel
theorem dX12_pays_168 : decode cX12_pays 168 = .ok (.iload 4, 2) := by decide +kernel
theorem dX12_pays_170 : decode cX12_pays 170 = .ok (.iaload, 1) := by decide +kernel
theorem dX12_pays_171 : decode cX12_pays 171 = .ok (.aload_n 0, 1) := by decide +kernel
theorem dX12_pays_172 : decode cX12_pays 172 = .ok (.getfield 398, 3) := by decide +kernel
theorem dX12_pays_175 : decode cX12_pays 175 = .ok (.if_icmp .gt 33, 3) := by decide +kernel
theorem dX12_pays_178 : decode cX12_pays 178 = .ok (.aload_n 0, 1) := by decide +kernel
theorem dX12_pays_179 : decode cX12_pays 179 = .ok (.getfield 95, 3) := by decide +kernel
theorem dX12_pays_182 : decode cX12_pays 182 = .ok (.iload 4, 2) := by decide +kernel
theorem dX12_pays_184 : decode cX12_pays 184 = .ok (.iaload, 1) := by decide +kernel
theorem dX12_pays_185 : decode cX12_pays 185 = .ok (.aload_n 0, 1) := by decide +kernel
theorem dX12_pays_186 : decode cX12_pays 186 = .ok (.getfield 83, 3) := by decide +kernel
theorem dX12_pays_189 : decode cX12_pays 189 = .ok (.iload_n 1, 1) := by decide +kernel
theorem dX12_pays_190 : decode cX12_pays 190 = .ok (.iaload, 1) := by decide +kernel
theorem dX12_pays_191 : decode cX12_pays 191 = .ok (.isub, 1) := by decide +kernel
theorem dX12_pays_192 : decode cX12_pays 192 = .ok (.aload_n 0, 1) := by decide +kernel
theorem dX12_pays_193 : decode cX12_pays 193 = .ok (.getfield 132, 3) := by decide +kernel
theorem dX12_pays_196 : decode cX12_pays 196 = .ok (.aload_n 0, 1) := by decide +kernel
theorem dX12_pays_197 : decode cX12_pays 197 = .ok (.getfield 416, 3) := by decide +kernel
theorem dX12_pays_200 : decode cX12_pays 200 = .ok (.iaload, 1) := by decide +kernel
theorem dX12_pays_201 : decode cX12_pays 201 = .ok (.if_icmp .gt 7, 3) := by decide +kernel
theorem dX12_pays_204 : decode cX12_pays 204 = .ok (.iconst 1, 1) := by decide +kernel
theorem dX12_pays_205 : decode cX12_pays 205 = .ok (.goto 4, 3) := by decide +kernel
theorem dX12_pays_208 : decode cX12_pays 208 = .ok (.iconst 0, 1) := by decide +kernel
theorem dX12_pays_209 : decode cX12_pays 209 = .ok (.istore_n 3, 1) := by decide +kernel
theorem dX12_pays_210 : decode cX12_pays 210 = .ok (.iinc 4 1, 3) := by decide +kernel
theorem dX12_pays_213 : decode cX12_pays 213 = .ok (.goto (-84), 3) := by decide +kernel
theorem dX12_pays_216 : decode cX12_pays 216 = .ok (.iload_n 3, 1) := by decide +kernel
theorem dX12_pays_217 : decode cX12_pays 217 = .ok (.ifCond .eq 18, 3) := by decide +kernel
theorem dX12_pays_220 : decode cX12_pays 220 = .ok (.aload_n 0, 1) := by decide +kernel
theorem dX12_pays_221 : decode cX12_pays 221 = .ok (.getfield 183, 3) := by decide +kernel
theorem dX12_pays_224 : decode cX12_pays 224 = .ok (.iload_n 2, 1) := by decide +kernel
theorem dX12_pays_225 : decode cX12_pays 225 = .ok (.aload_n 0, 1) := by decide +kernel
theorem dX12_pays_226 : decode cX12_pays 226 = .ok (.getfield 180, 3) := by decide +kernel
theorem dX12_pays_229 : decode cX12_pays 229 = .ok (.iload_n 2, 1) := by decide +kernel
theorem dX12_pays_230 : decode cX12_pays 230 = .ok (.iaload, 1) := by decide +kernel
theorem dX12_pays_231 : decode cX12_pays 231 = .ok (.iastore, 1) := by decide +kernel
theorem dX12_pays_232 : decode cX12_pays 232 = .ok (.goto 18, 3) := by decide +kernel
theorem dX12_pays_235 : decode cX12_pays 235 = .ok (.aload_n 0, 1) := by decide +kernel
theorem dX12_pays_236 : decode cX12_pays 236 = .ok (.dup, 1) := by decide +kernel
theorem dX12_pays_237 : decode cX12_pays 237 = .ok (.getfield 450, 3) := by decide +kernel
theorem dX12_pays_240 : decode cX12_pays 240 = .ok (.aload_n 0, 1) := by decide +kernel
theorem dX12_pays_241 : decode cX12_pays 241 = .ok (.getfield 180, 3) := by decide +kernel
theorem dX12_pays_244 : decode cX12_pays 244 = .ok (.iload_n 2, 1) := by decide +kernel
theorem dX12_pays_245 : decode cX12_pays 245 = .ok (.iaload, 1) := by decide +kernel
theorem dX12_pays_246 : decode cX12_pays 246 = .ok (.iadd, 1) := by decide +kernel
theorem dX12_pays_247 : decode cX12_pays 247 = .ok (.putfield 450, 3) := by decide +kernel
theorem dX12_pays_250 : decode cX12_pays 250 = .ok (.return_, 1) := by decide +kernel
theorem dX12_isEvening_0 : decode cX12_isEvening 0 = .ok (.aload_n 0, 1) := by decide +kernel
theorem dX12_isEvening_1 : decode cX12_isEvening 1 = .ok (.iload_n 1, 1) := by decide +kernel
theorem dX12_isEvening_2 : decode cX12_isEvening 2 = .ok (.ifCond .lt 15, 3) := by decide +kernel
theorem dX12_isEvening_5 : decode cX12_isEvening 5 = .ok (.iload_n 1, 1) := by decide +kernel
theorem dX12_isEvening_6 : decode cX12_isEvening 6 = .ok (.aload_n 0, 1) := by decide +kernel
theorem dX12_isEvening_7 : decode cX12_isEvening 7 = .ok (.getfield 250, 3) := by decide +kernel
theorem dX12_isEvening_10 : decode cX12_isEvening 10 = .ok (.if_icmp .gt 7, 3) := by decide +kernel
theorem dX12_isEvening_13 : decode cX12_isEvening 13 = .ok (.iconst 1, 1) := by decide +kernel
theorem dX12_isEvening_14 : decode cX12_isEvening 14 = .ok (.goto 4, 3) := by decide +kernel
theorem dX12_isEvening_17 : decode cX12_isEvening 17 = .ok (.iconst 0, 1) := by decide +kernel
theorem dX12_isEvening_18 : decode cX12_isEvening 18 = .ok (.iconst 2, 1) := by decide +kernel
theorem dX12_isEvening_19 : decode cX12_isEvening 19 = .ok (.invokevirtual 214, 3) := by decide +kernel
theorem dX12_isEvening_22 : decode cX12_isEvening 22 = .ok (.ireturn, 1) := by decide +kernel
theorem dX12_sold_0 : decode cX12_sold 0 = .ok (.aload_n 0, 1) := by decide +kernel
theorem dX12_sold_1 : decode cX12_sold 1 = .ok (.iconst 0, 1) := by decide +kernel
theorem dX12_sold_2 : decode cX12_sold 2 = .ok (.putfield 208, 3) := by decide +kernel
theorem dX12_sold_5 : decode cX12_sold 5 = .ok (.aload_n 0, 1) := by decide +kernel
theorem dX12_sold_6 : decode cX12_sold 6 = .ok (.iload_n 1, 1) := by decide +kernel
theorem dX12_sold_7 : decode cX12_sold 7 = .ok (.invokevirtual 270, 3) := by decide +kernel
theorem dX12_sold_10 : decode cX12_sold 10 = .ok (.ifCond .eq 34, 3) := by decide +kernel
theorem dX12_sold_13 : decode cX12_sold 13 = .ok (.aload_n 0, 1) := by decide +kernel
theorem dX12_sold_14 : decode cX12_sold 14 = .ok (.iload_n 2, 1) := by decide +kernel
theorem dX12_sold_15 : decode cX12_sold 15 = .ok (.ifCond .lt 13, 3) := by decide +kernel
theorem dX12_sold_18 : decode cX12_sold 18 = .ok (.iload_n 2, 1) := by decide +kernel
theorem dX12_sold_19 : decode cX12_sold 19 = .ok (.bipush 7, 2) := by decide +kernel
theorem dX12_sold_21 : decode cX12_sold 21 = .ok (.if_icmp .gt 7, 3) := by decide +kernel
theorem dX12_sold_24 : decode cX12_sold 24 = .ok (.iconst 1, 1) := by decide +kernel
theorem dX12_sold_25 : decode cX12_sold 25 = .ok (.goto 4, 3) := by decide +kernel
theorem dX12_sold_28 : decode cX12_sold 28 = .ok (.iconst 0, 1) := by decide +kernel
theorem dX12_sold_29 : decode cX12_sold 29 = .ok (.iconst 1, 1) := by decide +kernel
theorem dX12_sold_30 : decode cX12_sold 30 = .ok (.invokevirtual 214, 3) := by decide +kernel
theorem dX12_sold_33 : decode cX12_sold 33 = .ok (.ifCond .eq 11, 3) := by decide +kernel
theorem dX12_sold_36 : decode cX12_sold 36 = .ok (.aload_n 0, 1) := by decide +kernel
theorem dX12_sold_37 : decode cX12_sold 37 = .ok (.iload_n 3, 1) := by decide +kernel
theorem dX12_sold_38 : decode cX12_sold 38 = .ok (.invokevirtual 471, 3) := by decide +kernel
theorem dX12_sold_41 : decode cX12_sold 41 = .ok (.ifCond .ne 5, 3) := by decide +kernel
theorem dX12_sold_44 : decode cX12_sold 44 = .ok (.iconst 0, 1) := by decide +kernel
theorem dX12_sold_45 : decode cX12_sold 45 = .ok (.ireturn, 1) := by decide +kernel
theorem dX12_sold_46 : decode cX12_sold 46 = .ok (.aload_n 0, 1) := by decide +kernel
theorem dX12_sold_47 : decode cX12_sold 47 = .ok (.iload_n 1, 1) := by decide +kernel
theorem dX12_sold_48 : decode cX12_sold 48 = .ok (.iload_n 3, 1) := by decide +kernel
theorem dX12_sold_49 : decode cX12_sold 49 = .ok (.invokevirtual 260, 3) := by decide +kernel
theorem dX12_sold_52 : decode cX12_sold 52 = .ok (.ifCond .ne 5, 3) := by decide +kernel
theorem dX12_sold_55 : decode cX12_sold 55 = .ok (.iconst (-1), 1) := by decide +kernel
theorem dX12_sold_56 : decode cX12_sold 56 = .ok (.ireturn, 1) := by decide +kernel
theorem dX12_sold_57 : decode cX12_sold 57 = .ok (.aload_n 0, 1) := by decide +kernel
theorem dX12_sold_58 : decode cX12_sold 58 = .ok (.iload_n 3, 1) := by decide +kernel
theorem dX12_sold_59 : decode cX12_sold 59 = .ok (.invokevirtual 474, 3) := by decide +kernel
theorem dX12_sold_62 : decode cX12_sold 62 = .ok (.aload_n 0, 1) := by decide +kernel
theorem dX12_sold_63 : decode cX12_sold 63 = .ok (.iload_n 1, 1) := by decide +kernel
theorem dX12_sold_64 : decode cX12_sold 64 = .ok (.invokevirtual 477, 3) := by decide +kernel
theorem dX12_sold_67 : decode cX12_sold 67 = .ok (.iload_n 2, 1) := by decide +kernel
theorem dX12_sold_68 : decode cX12_sold 68 = .ok (.tableswitch 79 0 6 #[44, 49, 54, 59, 64, 69, 74], 44) := by decide +kernel
theorem dX12_sold_112 : decode cX12_sold 112 = .ok (.aload_n 0, 1) := by decide +kernel
theorem dX12_sold_113 : decode cX12_sold 113 = .ok (.getfield 419, 3) := by decide +kernel
theorem dX12_sold_116 : decode cX12_sold 116 = .ok (.ireturn, 1) := by decide +kernel
theorem dX12_sold_117 : decode cX12_sold 117 = .ok (.aload_n 0, 1) := by decide +kernel
theorem dX12_sold_118 : decode cX12_sold 118 = .ok (.getfield 442, 3) := by decide +kernel
theorem dX12_sold_121 : decode cX12_sold 121 = .ok (.ireturn, 1) := by decide +kernel
theorem dX12_sold_122 : decode cX12_sold 122 = .ok (.aload_n 0, 1) := by decide +kernel
theorem dX12_sold_123 : decode cX12_sold 123 = .ok (.getfield 448, 3) := by decide +kernel
theorem dX12_sold_126 : decode cX12_sold 126 = .ok (.ireturn, 1) := by decide +kernel
theorem dX12_sold_127 : decode cX12_sold 127 = .ok (.aload_n 0, 1) := by decide +kernel
theorem dX12_sold_128 : decode cX12_sold 128 = .ok (.getfield 450, 3) := by decide +kernel
theorem dX12_sold_131 : decode cX12_sold 131 = .ok (.ireturn, 1) := by decide +kernel
theorem dX12_sold_132 : decode cX12_sold 132 = .ok (.aload_n 0, 1) := by decide +kernel
theorem dX12_sold_133 : decode cX12_sold 133 = .ok (.getfield 453, 3) := by decide +kernel
theorem dX12_sold_136 : decode cX12_sold 136 = .ok (.ireturn, 1) := by decide +kernel
theorem dX12_sold_137 : decode cX12_sold 137 = .ok (.aload_n 0, 1) := by decide +kernel
theorem dX12_sold_138 : decode cX12_sold 138 = .ok (.getfield 416, 3) := by decide +kernel
theorem dX12_sold_141 : decode cX12_sold 141 = .ok (.ireturn, 1) := by decide +kernel
theorem dX12_sold_142 : decode cX12_sold 142 = .ok (.aload_n 0, 1) := by decide +kernel
theorem dX12_sold_143 : decode cX12_sold 143 = .ok (.getfield 408, 3) := by decide +kernel
theorem dX12_sold_146 : decode cX12_sold 146 = .ok (.ireturn, 1) := by decide +kernel
theorem dX12_sold_147 : decode cX12_sold 147 = .ok (.aload_n 0, 1) := by decide +kernel
theorem dX12_sold_148 : decode cX12_sold 148 = .ok (.getfield 405, 3) := by decide +kernel
theorem dX12_sold_151 : decode cX12_sold 151 = .ok (.ireturn, 1) := by decide +kernel
theorem dX12_has_0 : decode cX12_has 0 = .ok (.aload_n 0, 1) := by decide +kernel
theorem dX12_has_1 : decode cX12_has 1 = .ok (.iconst 0, 1) := by decide +kernel
theorem dX12_has_2 : decode cX12_has 2 = .ok (.putfield 208, 3) := by decide +kernel
theorem dX12_has_5 : decode cX12_has 5 = .ok (.aload_n 0, 1) := by decide +kernel
theorem dX12_has_6 : decode cX12_has 6 = .ok (.iload_n 1, 1) := by decide +kernel
theorem dX12_has_7 : decode cX12_has 7 = .ok (.invokevirtual 270, 3) := by decide +kernel
theorem dX12_has_10 : decode cX12_has 10 = .ok (.ifCond .eq 42, 3) := by decide +kernel
theorem dX12_has_13 : decode cX12_has 13 = .ok (.aload_n 0, 1) := by decide +kernel
theorem dX12_has_14 : decode cX12_has 14 = .ok (.iload_n 2, 1) := by decide +kernel
theorem dX12_has_15 : decode cX12_has 15 = .ok (.invokevirtual 239, 3) := by decide +kernel
theorem dX12_has_18 : decode cX12_has 18 = .ok (.ifCond .eq 34, 3) := by decide +kernel
theorem dX12_has_21 : decode cX12_has 21 = .ok (.aload_n 0, 1) := by decide +kernel
theorem dX12_has_22 : decode cX12_has 22 = .ok (.iload_n 3, 1) := by decide +kernel
theorem dX12_has_23 : decode cX12_has 23 = .ok (.ifCond .lt 12, 3) := by decide +kernel
theorem dX12_has_26 : decode cX12_has 26 = .ok (.iload_n 3, 1) := by decide +kernel
theorem dX12_has_27 : decode cX12_has 27 = .ok (.iconst 3, 1) := by decide +kernel
theorem dX12_has_28 : decode cX12_has 28 = .ok (.if_icmp .gt 7, 3) := by decide +kernel
theorem dX12_has_31 : decode cX12_has 31 = .ok (.iconst 1, 1) := by decide +kernel
theorem dX12_has_32 : decode cX12_has 32 = .ok (.goto 4, 3) := by decide +kernel
theorem dX12_has_35 : decode cX12_has 35 = .ok (.iconst 0, 1) := by decide +kernel
theorem dX12_has_36 : decode cX12_has 36 = .ok (.iconst 1, 1) := by decide +kernel
