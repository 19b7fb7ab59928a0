theorem dX12_has_37 : decode cX12_has 37 = .ok (.invokevirtual 214, 3) := by decide +kernel
theorem dX12_has_40 : decode cX12_has 40 = .ok (.ifCond .eq 12, 3) := by decide +kernel
theorem dX12_has_43 : decode cX12_has 43 = .ok (.aload_n 0, 1) := by decide +kernel
theorem dX12_has_44 : decode cX12_has 44 = .ok (.iload 4, 2) := by decide +kernel
theorem dX12_has_46 : decode cX12_has 46 = .ok (.invokevirtual 471, 3) := by decide +kernel
theorem dX12_has_49 : decode cX12_has 49 = .ok (.ifCond .ne 5, 3) := by decide +kernel
theorem dX12_has_52 : decode cX12_has 52 = .ok (.iconst 0, 1) := by decide +kernel
theorem dX12_has_53 : decode cX12_has 53 = .ok (.ireturn, 1) := by decide +kernel
theorem dX12_has_54 : decode cX12_has 54 = .ok (.aload_n 0, 1) := by decide +kernel
theorem dX12_has_55 : decode cX12_has 55 = .ok (.iload_n 1, 1) := by decide +kernel
theorem dX12_has_56 : decode cX12_has 56 = .ok (.iload 4, 2) := by decide +kernel
theorem dX12_has_58 : decode cX12_has 58 = .ok (.invokevirtual 260, 3) := by decide +kernel
theorem dX12_has_61 : decode cX12_has 61 = .ok (.ifCond .ne 5, 3) := by decide +kernel
theorem dX12_has_64 : decode cX12_has 64 = .ok (.iconst 0, 1) := by decide +kernel
theorem dX12_has_65 : decode cX12_has 65 = .ok (.ireturn, 1) := by decide +kernel
theorem dX12_has_66 : decode cX12_has 66 = .ok (.aload_n 0, 1) := by decide +kernel
theorem dX12_has_67 : decode cX12_has 67 = .ok (.iload 4, 2) := by decide +kernel
theorem dX12_has_69 : decode cX12_has 69 = .ok (.invokevirtual 474, 3) := by decide +kernel
theorem dX12_has_72 : decode cX12_has 72 = .ok (.aload_n 0, 1) := by decide +kernel
theorem dX12_has_73 : decode cX12_has 73 = .ok (.iload_n 1, 1) := by decide +kernel
theorem dX12_has_74 : decode cX12_has 74 = .ok (.invokevirtual 477, 3) := by decide +kernel
theorem dX12_has_77 : decode cX12_has 77 = .ok (.iload_n 3, 1) := by decide +kernel
theorem dX12_has_78 : decode cX12_has 78 = .ok (.ifCond .ne 12, 3) := by decide +kernel
theorem dX12_has_81 : decode cX12_has 81 = .ok (.aload_n 0, 1) := by decide +kernel
theorem dX12_has_82 : decode cX12_has 82 = .ok (.getfield 174, 3) := by decide +kernel
theorem dX12_has_85 : decode cX12_has 85 = .ok (.iload_n 2, 1) := by decide +kernel
theorem dX12_has_86 : decode cX12_has 86 = .ok (.iaload, 1) := by decide +kernel
theorem dX12_has_87 : decode cX12_has 87 = .ok (.goto 37, 3) := by decide +kernel
theorem dX12_has_90 : decode cX12_has 90 = .ok (.iload_n 3, 1) := by decide +kernel
theorem dX12_has_91 : decode cX12_has 91 = .ok (.iconst 1, 1) := by decide +kernel
theorem dX12_has_92 : decode cX12_has 92 = .ok (.if_icmp .ne 12, 3) := by decide +kernel
theorem dX12_has_95 : decode cX12_has 95 = .ok (.aload_n 0, 1) := by decide +kernel
theorem dX12_has_96 : decode cX12_has 96 = .ok (.getfield 177, 3) := by decide +kernel
theorem dX12_has_99 : decode cX12_has 99 = .ok (.iload_n 2, 1) := by decide +kernel
theorem dX12_has_100 : decode cX12_has 100 = .ok (.iaload, 1) := by decide +kernel
theorem dX12_has_101 : decode cX12_has 101 = .ok (.goto 23, 3) := by decide +kernel
theorem dX12_has_104 : decode cX12_has 104 = .ok (.iload_n 3, 1) := by decide +kernel
theorem dX12_has_105 : decode cX12_has 105 = .ok (.iconst 2, 1) := by decide +kernel
theorem dX12_has_106 : decode cX12_has 106 = .ok (.if_icmp .ne 12, 3) := by decide +kernel
theorem dX12_has_109 : decode cX12_has 109 = .ok (.aload_n 0, 1) := by decide +kernel
theorem dX12_has_110 : decode cX12_has 110 = .ok (.getfield 180, 3) := by decide +kernel
theorem dX12_has_113 : decode cX12_has 113 = .ok (.iload_n 2, 1) := by decide +kernel
theorem dX12_has_114 : decode cX12_has 114 = .ok (.iaload, 1) := by decide +kernel
theorem dX12_has_115 : decode cX12_has 115 = .ok (.goto 9, 3) := by decide +kernel
theorem dX12_has_118 : decode cX12_has 118 = .ok (.aload_n 0, 1) := by decide +kernel
theorem dX12_has_119 : decode cX12_has 119 = .ok (.getfield 183, 3) := by decide +kernel
theorem dX12_has_122 : decode cX12_has 122 = .ok (.iload_n 2, 1) := by decide +kernel
theorem dX12_has_123 : decode cX12_has 123 = .ok (.iaload, 1) := by decide +kernel
theorem dX12_has_124 : decode cX12_has 124 = .ok (.ireturn, 1) := by decide +kernel
theorem dX12_isOf_0 : decode cX12_isOf 0 = .ok (.aload_n 0, 1) := by decide +kernel
theorem dX12_isOf_1 : decode cX12_isOf 1 = .ok (.getfield 56, 3) := by decide +kernel
theorem dX12_isOf_4 : decode cX12_isOf 4 = .ok (.iload_n 1, 1) := by decide +kernel
theorem dX12_isOf_5 : decode cX12_isOf 5 = .ok (.iaload, 1) := by decide +kernel
theorem dX12_isOf_6 : decode cX12_isOf 6 = .ok (.iconst 2, 1) := by decide +kernel
theorem dX12_isOf_7 : decode cX12_isOf 7 = .ok (.if_icmp .ne 30, 3) := by decide +kernel
theorem dX12_isOf_10 : decode cX12_isOf 10 = .ok (.aload_n 0, 1) := by decide +kernel
theorem dX12_isOf_11 : decode cX12_isOf 11 = .ok (.getfield 68, 3) := by decide +kernel
theorem dX12_isOf_14 : decode cX12_isOf 14 = .ok (.iload_n 1, 1) := by decide +kernel
theorem dX12_isOf_15 : decode cX12_isOf 15 = .ok (.iaload, 1) := by decide +kernel
theorem dX12_isOf_16 : decode cX12_isOf 16 = .ok (.sipush 365, 3) := by decide +kernel
theorem dX12_isOf_19 : decode cX12_isOf 19 = .ok (.idiv, 1) := by decide +kernel
theorem dX12_isOf_20 : decode cX12_isOf 20 = .ok (.iload_n 2, 1) := by decide +kernel
theorem dX12_isOf_21 : decode cX12_isOf 21 = .ok (.if_icmp .ne 16, 3) := by decide +kernel
theorem dX12_isOf_24 : decode cX12_isOf 24 = .ok (.aload_n 0, 1) := by decide +kernel
theorem dX12_isOf_25 : decode cX12_isOf 25 = .ok (.iload_n 1, 1) := by decide +kernel
theorem dX12_isOf_26 : decode cX12_isOf 26 = .ok (.iload_n 3, 1) := by decide +kernel
theorem dX12_isOf_27 : decode cX12_isOf 27 = .ok (.invokevirtual 260, 3) := by decide +kernel
theorem dX12_isOf_30 : decode cX12_isOf 30 = .ok (.ifCond .eq 7, 3) := by decide +kernel
theorem dX12_isOf_33 : decode cX12_isOf 33 = .ok (.iconst 1, 1) := by decide +kernel
theorem dX12_isOf_34 : decode cX12_isOf 34 = .ok (.goto 4, 3) := by decide +kernel
theorem dX12_isOf_37 : decode cX12_isOf 37 = .ok (.iconst 0, 1) := by decide +kernel
theorem dX12_isOf_38 : decode cX12_isOf 38 = .ok (.ireturn, 1) := by decide +kernel
theorem dX12_isYear_0 : decode cX12_isYear 0 = .ok (.aload_n 0, 1) := by decide +kernel
theorem dX12_isYear_1 : decode cX12_isYear 1 = .ok (.iload_n 1, 1) := by decide +kernel
theorem dX12_isYear_2 : decode cX12_isYear 2 = .ok (.ifCond .lt 13, 3) := by decide +kernel
theorem dX12_isYear_5 : decode cX12_isYear 5 = .ok (.iload_n 1, 1) := by decide +kernel
theorem dX12_isYear_6 : decode cX12_isYear 6 = .ok (.bipush 99, 2) := by decide +kernel
theorem dX12_isYear_8 : decode cX12_isYear 8 = .ok (.if_icmp .gt 7, 3) := by decide +kernel
theorem dX12_isYear_11 : decode cX12_isYear 11 = .ok (.iconst 1, 1) := by decide +kernel
theorem dX12_isYear_12 : decode cX12_isYear 12 = .ok (.goto 4, 3) := by decide +kernel
theorem dX12_isYear_15 : decode cX12_isYear 15 = .ok (.iconst 0, 1) := by decide +kernel
theorem dX12_isYear_16 : decode cX12_isYear 16 = .ok (.iconst 1, 1) := by decide +kernel
theorem dX12_isYear_17 : decode cX12_isYear 17 = .ok (.invokevirtual 214, 3) := by decide +kernel
theorem dX12_isYear_20 : decode cX12_isYear 20 = .ok (.ireturn, 1) := by decide +kernel
theorem dX12_gets_0 : decode cX12_gets 0 = .ok (.aload_n 0, 1) := by decide +kernel
theorem dX12_gets_1 : decode cX12_gets 1 = .ok (.iconst 0, 1) := by decide +kernel
theorem dX12_gets_2 : decode cX12_gets 2 = .ok (.putfield 208, 3) := by decide +kernel
theorem dX12_gets_5 : decode cX12_gets 5 = .ok (.aload_n 0, 1) := by decide +kernel
theorem dX12_gets_6 : decode cX12_gets 6 = .ok (.iload_n 1, 1) := by decide +kernel
theorem dX12_gets_7 : decode cX12_gets 7 = .ok (.invokevirtual 239, 3) := by decide +kernel
theorem dX12_gets_10 : decode cX12_gets 10 = .ok (.ifCond .eq 19, 3) := by decide +kernel
theorem dX12_gets_13 : decode cX12_gets 13 = .ok (.aload_n 0, 1) := by decide +kernel
theorem dX12_gets_14 : decode cX12_gets 14 = .ok (.iload_n 2, 1) := by decide +kernel
theorem dX12_gets_15 : decode cX12_gets 15 = .ok (.invokevirtual 480, 3) := by decide +kernel
theorem dX12_gets_18 : decode cX12_gets 18 = .ok (.ifCond .eq 11, 3) := by decide +kernel
theorem dX12_gets_21 : decode cX12_gets 21 = .ok (.aload_n 0, 1) := by decide +kernel
theorem dX12_gets_22 : decode cX12_gets 22 = .ok (.iload_n 3, 1) := by decide +kernel
theorem dX12_gets_23 : decode cX12_gets 23 = .ok (.invokevirtual 471, 3) := by decide +kernel
theorem dX12_gets_26 : decode cX12_gets 26 = .ok (.ifCond .ne 5, 3) := by decide +kernel
theorem dX12_gets_29 : decode cX12_gets 29 = .ok (.lconst 0, 1) := by decide +kernel
theorem dX12_gets_30 : decode cX12_gets 30 = .ok (.lreturn, 1) := by decide +kernel
theorem dX12_gets_31 : decode cX12_gets 31 = .ok (.aload_n 0, 1) := by decide +kernel
theorem dX12_gets_32 : decode cX12_gets 32 = .ok (.iload_n 3, 1) := by decide +kernel
theorem dX12_gets_33 : decode cX12_gets 33 = .ok (.invokevirtual 474, 3) := by decide +kernel
theorem dX12_gets_36 : decode cX12_gets 36 = .ok (.lconst 0, 1) := by decide +kernel
theorem dX12_gets_37 : decode cX12_gets 37 = .ok (.lstore 4, 2) := by decide +kernel
theorem dX12_gets_39 : decode cX12_gets 39 = .ok (.iconst 0, 1) := by decide +kernel
theorem dX12_gets_40 : decode cX12_gets 40 = .ok (.istore 6, 2) := by decide +kernel
theorem dX12_gets_42 : decode cX12_gets 42 = .ok (.iload 6, 2) := by decide +kernel
theorem dX12_gets_44 : decode cX12_gets 44 = .ok (.aload_n 0, 1) := by decide +kernel
theorem dX12_gets_45 : decode cX12_gets 45 = .ok (.getfield 253, 3) := by decide +kernel
theorem dX12_gets_48 : decode cX12_gets 48 = .ok (.if_icmp .ge 41, 3) := by decide +kernel
theorem dX12_gets_51 : decode cX12_gets 51 = .ok (.aload_n 0, 1) := by decide +kernel
theorem dX12_gets_52 : decode cX12_gets 52 = .ok (.iload 6, 2) := by decide +kernel
theorem dX12_gets_54 : decode cX12_gets 54 = .ok (.iload_n 2, 1) := by decide +kernel
theorem dX12_gets_55 : decode cX12_gets 55 = .ok (.iload_n 3, 1) := by decide +kernel
theorem dX12_gets_56 : decode cX12_gets 56 = .ok (.invokevirtual 483, 3) := by decide +kernel
theorem dX12_gets_59 : decode cX12_gets 59 = .ok (.ifCond .ne 6, 3) := by decide +kernel
theorem dX12_gets_62 : decode cX12_gets 62 = .ok (.goto 21, 3) := by decide +kernel
theorem dX12_gets_65 : decode cX12_gets 65 = .ok (.aload_n 0, 1) := by decide +kernel
theorem dX12_gets_66 : decode cX12_gets 66 = .ok (.iload 6, 2) := by decide +kernel
theorem dX12_gets_68 : decode cX12_gets 68 = .ok (.invokevirtual 477, 3) := by decide +kernel
theorem dX12_gets_71 : decode cX12_gets 71 = .ok (.lload 4, 2) := by decide +kernel
theorem dX12_gets_73 : decode cX12_gets 73 = .ok (.aload_n 0, 1) := by decide +kernel
theorem dX12_gets_74 : decode cX12_gets 74 = .ok (.getfield 183, 3) := by decide +kernel
theorem dX12_gets_77 : decode cX12_gets 77 = .ok (.iload_n 1, 1) := by decide +kernel
theorem dX12_gets_78 : decode cX12_gets 78 = .ok (.iaload, 1) := by decide +kernel
theorem dX12_gets_79 : decode cX12_gets 79 = .ok (.i2l, 1) := by decide +kernel
theorem dX12_gets_80 : decode cX12_gets 80 = .ok (.ladd, 1) := by decide +kernel
theorem dX12_gets_81 : decode cX12_gets 81 = .ok (.lstore 4, 2) := by decide +kernel
theorem dX12_gets_83 : decode cX12_gets 83 = .ok (.iinc 6 1, 3) := by decide +kernel
theorem dX12_gets_86 : decode cX12_gets 86 = .ok (.goto (-44), 3) := by decide +kernel
theorem dX12_gets_89 : decode cX12_gets 89 = .ok (.lload 4, 2) := by decide +kernel
theorem dX12_gets_91 : decode cX12_gets 91 = .ok (.lreturn, 1) := by decide +kernel
theorem dX12_clears_0 : decode cX12_clears 0 = .ok (.aload_n 0, 1) := by decide +kernel
theorem dX12_clears_1 : decode cX12_clears 1 = .ok (.iload_n 2, 1) := by decide +kernel
theorem dX12_clears_2 : decode cX12_clears 2 = .ok (.invokevirtual 474, 3) := by decide +kernel
theorem dX12_clears_5 : decode cX12_clears 5 = .ok (.iconst 0, 1) := by decide +kernel
theorem dX12_clears_6 : decode cX12_clears 6 = .ok (.istore_n 3, 1) := by decide +kernel
theorem dX12_clears_7 : decode cX12_clears 7 = .ok (.iload_n 3, 1) := by decide +kernel
theorem dX12_clears_8 : decode cX12_clears 8 = .ok (.bipush 25, 2) := by decide +kernel
theorem dX12_clears_10 : decode cX12_clears 10 = .ok (.if_icmp .ge 16, 3) := by decide +kernel
theorem dX12_clears_13 : decode cX12_clears 13 = .ok (.aload_n 0, 1) := by decide +kernel
theorem dX12_clears_14 : decode cX12_clears 14 = .ok (.getfield 195, 3) := by decide +kernel
theorem dX12_clears_17 : decode cX12_clears 17 = .ok (.iload_n 3, 1) := by decide +kernel
theorem dX12_clears_18 : decode cX12_clears 18 = .ok (.lconst 0, 1) := by decide +kernel
theorem dX12_clears_19 : decode cX12_clears 19 = .ok (.lastore, 1) := by decide +kernel
theorem dX12_clears_20 : decode cX12_clears 20 = .ok (.iinc 3 1, 3) := by decide +kernel
theorem dX12_clears_23 : decode cX12_clears 23 = .ok (.goto (-16), 3) := by decide +kernel
theorem dX12_clears_26 : decode cX12_clears 26 = .ok (.iconst 0, 1) := by decide +kernel
theorem dX12_clears_27 : decode cX12_clears 27 = .ok (.istore_n 3, 1) := by decide +kernel
theorem dX12_clears_28 : decode cX12_clears 28 = .ok (.iload_n 3, 1) := by decide +kernel
theorem dX12_clears_29 : decode cX12_clears 29 = .ok (.aload_n 0, 1) := by decide +kernel
theorem dX12_clears_30 : decode cX12_clears 30 = .ok (.getfield 253, 3) := by decide +kernel
theorem dX12_clears_33 : decode cX12_clears 33 = .ok (.if_icmp .ge 108, 3) := by decide +kernel
theorem dX12_clears_36 : decode cX12_clears 36 = .ok (.aload_n 0, 1) := by decide +kernel
theorem dX12_clears_37 : decode cX12_clears 37 = .ok (.iload_n 3, 1) := by decide +kernel
theorem dX12_clears_38 : decode cX12_clears 38 = .ok (.iload_n 1, 1) := by decide +kernel
theorem dX12_clears_39 : decode cX12_clears 39 = .ok (.iload_n 2, 1) := by decide +kernel
theorem dX12_clears_40 : decode cX12_clears 40 = .ok (.invokevirtual 483, 3) := by decide +kernel
theorem dX12_clears_43 : decode cX12_clears 43 = .ok (.ifCond .ne 6, 3) := by decide +kernel
theorem dX12_clears_46 : decode cX12_clears 46 = .ok (.goto 89, 3) := by decide +kernel
theorem dX12_clears_49 : decode cX12_clears 49 = .ok (.aload_n 0, 1) := by decide +kernel
theorem dX12_clears_50 : decode cX12_clears 50 = .ok (.iload_n 3, 1) := by decide +kernel
theorem dX12_clears_51 : decode cX12_clears 51 = .ok (.invokevirtual 477, 3) := by decide +kernel
theorem dX12_clears_54 : decode cX12_clears 54 = .ok (.iconst 0, 1) := by decide +kernel
theorem dX12_clears_55 : decode cX12_clears 55 = .ok (.istore 4, 2) := by decide +kernel
theorem dX12_clears_57 : decode cX12_clears 57 = .ok (.iload 4, 2) := by decide +kernel
theorem dX12_clears_59 : decode cX12_clears 59 = .ok (.aload_n 0, 1) := by decide +kernel
theorem dX12_clears_60 : decode cX12_clears 60 = .ok (.getfield 218, 3) := by decide +kernel
theorem dX12_clears_63 : decode cX12_clears 63 = .ok (.if_icmp .ge 72, 3) := by decide +kernel
theorem dX12_clears_66 : decode cX12_clears 66 = .ok (.aload_n 0, 1) := by decide +kernel
theorem dX12_clears_67 : decode cX12_clears 67 = .ok (.getfield 453, 3) := by decide +kernel
theorem dX12_clears_70 : decode cX12_clears 70 = .ok (.iconst (-1), 1) := by decide +kernel
theorem dX12_clears_71 : decode cX12_clears 71 = .ok (.if_icmp .eq 64, 3) := by decide +kernel
theorem dX12_clears_74 : decode cX12_clears 74 = .ok (.aload_n 0, 1) := by decide +kernel
theorem dX12_clears_75 : decode cX12_clears 75 = .ok (.getfield 186, 3) := by decide +kernel
theorem dX12_clears_78 : decode cX12_clears 78 = .ok (.iload 4, 2) := by decide +kernel
theorem dX12_clears_80 : decode cX12_clears 80 = .ok (.iaload, 1) := by decide +kernel
theorem dX12_clears_81 : decode cX12_clears 81 = .ok (.iconst (-1), 1) := by decide +kernel
theorem dX12_clears_82 : decode cX12_clears 82 = .ok (.if_icmp .eq 47, 3) := by decide +kernel
theorem dX12_clears_85 : decode cX12_clears 85 = .ok (.aload_n 0, 1) := by decide +kernel
theorem dX12_clears_86 : decode cX12_clears 86 = .ok (.getfield 186, 3) := by decide +kernel
theorem dX12_clears_89 : decode cX12_clears 89 = .ok (.iload 4, 2) := by decide +kernel
theorem dX12_clears_91 : decode cX12_clears 91 = .ok (.iaload, 1) := by decide +kernel
theorem dX12_clears_92 : decode cX12_clears 92 = .ok (.aload_n 0, 1) := by decide +kernel
theorem dX12_clears_93 : decode cX12_clears 93 = .ok (.getfield 453, 3) := by decide +kernel
theorem dX12_clears_96 : decode cX12_clears 96 = .ok (.if_icmp .eq 33, 3) := by decide +kernel
theorem dX12_clears_99 : decode cX12_clears 99 = .ok (.aload_n 0, 1) := by decide +kernel
theorem dX12_clears_100 : decode cX12_clears 100 = .ok (.getfield 195, 3) := by decide +kernel
theorem dX12_clears_103 : decode cX12_clears 103 = .ok (.iconst 5, 1) := by decide +kernel
theorem dX12_clears_104 : decode cX12_clears 104 = .ok (.aload_n 0, 1) := by decide +kernel
theorem dX12_clears_105 : decode cX12_clears 105 = .ok (.getfield 453, 3) := by decide +kernel
theorem dX12_clears_108 : decode cX12_clears 108 = .ok (.imul, 1) := by decide +kernel
theorem dX12_clears_109 : decode cX12_clears 109 = .ok (.aload_n 0, 1) := by decide +kernel
theorem dX12_clears_110 : decode cX12_clears 110 = .ok (.getfield 186, 3) := by decide +kernel
theorem dX12_clears_113 : decode cX12_clears 113 = .ok (.iload 4, 2) := by decide +kernel
theorem dX12_clears_115 : decode cX12_clears 115 = .ok (.iaload, 1) := by decide +kernel
theorem dX12_clears_116 : decode cX12_clears 116 = .ok (.iadd, 1) := by decide +kernel
theorem dX12_clears_117 : decode cX12_clears 117 = .ok (.dup2, 1) := by decide +kernel
theorem dX12_clears_118 : decode cX12_clears 118 = .ok (.laload, 1) := by decide +kernel
theorem dX12_clears_119 : decode cX12_clears 119 = .ok (.aload_n 0, 1) := by decide +kernel
theorem dX12_clears_120 : decode cX12_clears 120 = .ok (.getfield 180, 3) := by decide +kernel
theorem dX12_clears_123 : decode cX12_clears 123 = .ok (.iload 4, 2) := by decide +kernel
theorem dX12_clears_125 : decode cX12_clears 125 = .ok (.iaload, 1) := by decide +kernel
theorem dX12_clears_126 : decode cX12_clears 126 = .ok (.i2l, 1) := by decide +kernel
theorem dX12_clears_127 : decode cX12_clears 127 = .ok (.ladd, 1) := by decide +kernel
theorem dX12_clears_128 : decode cX12_clears 128 = .ok (.lastore, 1) := by decide +kernel
theorem dX12_clears_129 : decode cX12_clears 129 = .ok (.iinc 4 1, 3) := by decide +kernel
theorem dX12_clears_132 : decode cX12_clears 132 = .ok (.goto (-75), 3) := by decide +kernel
theorem dX12_clears_135 : decode cX12_clears 135 = .ok (.iinc 3 1, 3) := by decide +kernel
theorem dX12_clears_138 : decode cX12_clears 138 = .ok (.goto (-110), 3) := by decide +kernel
theorem dX12_clears_141 : decode cX12_clears 141 = .ok (.return_, 1) := by decide +kernel
theorem dX12_owes_0 : decode cX12_owes 0 = .ok (.aload_n 0, 1) := by decide +kernel
theorem dX12_owes_1 : decode cX12_owes 1 = .ok (.iconst 0, 1) := by decide +kernel
theorem dX12_owes_2 : decode cX12_owes 2 = .ok (.putfield 208, 3) := by decide +kernel
theorem dX12_owes_5 : decode cX12_owes 5 = .ok (.aload_n 0, 1) := by decide +kernel
theorem dX12_owes_6 : decode cX12_owes 6 = .ok (.iload_n 1, 1) := by decide +kernel
theorem dX12_owes_7 : decode cX12_owes 7 = .ok (.invokevirtual 264, 3) := by decide +kernel
theorem dX12_owes_10 : decode cX12_owes 10 = .ok (.ifCond .eq 28, 3) := by decide +kernel
theorem dX12_owes_13 : decode cX12_owes 13 = .ok (.aload_n 0, 1) := by decide +kernel
theorem dX12_owes_14 : decode cX12_owes 14 = .ok (.iload_n 2, 1) := by decide +kernel
theorem dX12_owes_15 : decode cX12_owes 15 = .ok (.invokevirtual 264, 3) := by decide +kernel
theorem dX12_owes_18 : decode cX12_owes 18 = .ok (.ifCond .eq 20, 3) := by decide +kernel
theorem dX12_owes_21 : decode cX12_owes 21 = .ok (.aload_n 0, 1) := by decide +kernel
theorem dX12_owes_22 : decode cX12_owes 22 = .ok (.iload_n 3, 1) := by decide +kernel
theorem dX12_owes_23 : decode cX12_owes 23 = .ok (.invokevirtual 480, 3) := by decide +kernel
theorem dX12_owes_26 : decode cX12_owes 26 = .ok (.ifCond .eq 12, 3) := by decide +kernel
theorem dX12_owes_29 : decode cX12_owes 29 = .ok (.aload_n 0, 1) := by decide +kernel
theorem dX12_owes_30 : decode cX12_owes 30 = .ok (.iload 4, 2) := by decide +kernel
theorem dX12_owes_32 : decode cX12_owes 32 = .ok (.invokevirtual 471, 3) := by decide +kernel
theorem dX12_owes_35 : decode cX12_owes 35 = .ok (.ifCond .ne 5, 3) := by decide +kernel
theorem dX12_owes_38 : decode cX12_owes 38 = .ok (.lconst 0, 1) := by decide +kernel
theorem dX12_owes_39 : decode cX12_owes 39 = .ok (.lreturn, 1) := by decide +kernel
theorem dX12_owes_40 : decode cX12_owes 40 = .ok (.aload_n 0, 1) := by decide +kernel
theorem dX12_owes_41 : decode cX12_owes 41 = .ok (.iload_n 3, 1) := by decide +kernel
theorem dX12_owes_42 : decode cX12_owes 42 = .ok (.iload 4, 2) := by decide +kernel
theorem dX12_owes_44 : decode cX12_owes 44 = .ok (.invokevirtual 487, 3) := by decide +kernel
theorem dX12_owes_47 : decode cX12_owes 47 = .ok (.aload_n 0, 1) := by decide +kernel
theorem dX12_owes_48 : decode cX12_owes 48 = .ok (.getfield 195, 3) := by decide +kernel
theorem dX12_owes_51 : decode cX12_owes 51 = .ok (.iconst 5, 1) := by decide +kernel
theorem dX12_owes_52 : decode cX12_owes 52 = .ok (.iload_n 1, 1) := by decide +kernel
theorem dX12_owes_53 : decode cX12_owes 53 = .ok (.imul, 1) := by decide +kernel
theorem dX12_owes_54 : decode cX12_owes 54 = .ok (.iload_n 2, 1) := by decide +kernel
theorem dX12_owes_55 : decode cX12_owes 55 = .ok (.iadd, 1) := by decide +kernel
theorem dX12_owes_56 : decode cX12_owes 56 = .ok (.laload, 1) := by decide +kernel
theorem dX12_owes_57 : decode cX12_owes 57 = .ok (.lreturn, 1) := by decide +kernel
theorem dX12_netOf_0 : decode cX12_netOf 0 = .ok (.lconst 0, 1) := by decide +kernel
theorem dX12_netOf_1 : decode cX12_netOf 1 = .ok (.lstore_n 2, 1) := by decide +kernel
theorem dX12_netOf_2 : decode cX12_netOf 2 = .ok (.iconst 0, 1) := by decide +kernel
theorem dX12_netOf_3 : decode cX12_netOf 3 = .ok (.istore 4, 2) := by decide +kernel
theorem dX12_netOf_5 : decode cX12_netOf 5 = .ok (.iload 4, 2) := by decide +kernel
theorem dX12_netOf_7 : decode cX12_netOf 7 = .ok (.iconst 5, 1) := by decide +kernel
theorem dX12_netOf_8 : decode cX12_netOf 8 = .ok (.if_icmp .ge 35, 3) := by decide +kernel
theorem dX12_netOf_11 : decode cX12_netOf 11 = .ok (.lload_n 2, 1) := by decide +kernel
theorem dX12_netOf_12 : decode cX12_netOf 12 = .ok (.aload_n 0, 1) := by decide +kernel
theorem dX12_netOf_13 : decode cX12_netOf 13 = .ok (.getfield 195, 3) := by decide +kernel
theorem dX12_netOf_16 : decode cX12_netOf 16 = .ok (.iconst 5, 1) := by decide +kernel
theorem dX12_netOf_17 : decode cX12_netOf 17 = .ok (.iload 4, 2) := by decide +kernel
theorem dX12_netOf_19 : decode cX12_netOf 19 = .ok (.imul, 1) := by decide +kernel
theorem dX12_netOf_20 : decode cX12_netOf 20 = .ok (.iload_n 1, 1) := by decide +kernel
theorem dX12_netOf_21 : decode cX12_netOf 21 = .ok (.iadd, 1) := by decide +kernel
theorem dX12_netOf_22 : decode cX12_netOf 22 = .ok (.laload, 1) := by decide +kernel
theorem dX12_netOf_23 : decode cX12_netOf 23 = .ok (.aload_n 0, 1) := by decide +kernel
theorem dX12_netOf_24 : decode cX12_netOf 24 = .ok (.getfield 195, 3) := by decide +kernel
theorem dX12_netOf_27 : decode cX12_netOf 27 = .ok (.iconst 5, 1) := by decide +kernel
theorem dX12_netOf_28 : decode cX12_netOf 28 = .ok (.iload_n 1, 1) := by decide +kernel
theorem dX12_netOf_29 : decode cX12_netOf 29 = .ok (.imul, 1) := by decide +kernel
theorem dX12_netOf_30 : decode cX12_netOf 30 = .ok (.iload 4, 2) := by decide +kernel
theorem dX12_netOf_32 : decode cX12_netOf 32 = .ok (.iadd, 1) := by decide +kernel
theorem dX12_netOf_33 : decode cX12_netOf 33 = .ok (.laload, 1) := by decide +kernel
theorem dX12_netOf_34 : decode cX12_netOf 34 = .ok (.lsub, 1) := by decide +kernel
theorem dX12_netOf_35 : decode cX12_netOf 35 = .ok (.ladd, 1) := by decide +kernel
theorem dX12_netOf_36 : decode cX12_netOf 36 = .ok (.lstore_n 2, 1) := by decide +kernel
theorem dX12_netOf_37 : decode cX12_netOf 37 = .ok (.iinc 4 1, 3) := by decide +kernel
theorem dX12_netOf_40 : decode cX12_netOf 40 = .ok (.goto (-35), 3) := by decide +kernel
theorem dX12_netOf_43 : decode cX12_netOf 43 = .ok (.lload_n 2, 1) := by decide +kernel
theorem dX12_netOf_44 : decode cX12_netOf 44 = .ok (.lreturn, 1) := by decide +kernel
theorem dX12_net_0 : decode cX12_net 0 = .ok (.aload_n 0, 1) := by decide +kernel
theorem dX12_net_1 : decode cX12_net 1 = .ok (.iconst 0, 1) := by decide +kernel
theorem dX12_net_2 : decode cX12_net 2 = .ok (.putfield 208, 3) := by decide +kernel
theorem dX12_net_5 : decode cX12_net 5 = .ok (.aload_n 0, 1) := by decide +kernel
theorem dX12_net_6 : decode cX12_net 6 = .ok (.iload_n 1, 1) := by decide +kernel
theorem dX12_net_7 : decode cX12_net 7 = .ok (.invokevirtual 264, 3) := by decide +kernel
theorem dX12_net_10 : decode cX12_net 10 = .ok (.ifCond .eq 19, 3) := by decide +kernel
theorem dX12_net_13 : decode cX12_net 13 = .ok (.aload_n 0, 1) := by decide +kernel
theorem dX12_net_14 : decode cX12_net 14 = .ok (.iload_n 2, 1) := by decide +kernel
theorem dX12_net_15 : decode cX12_net 15 = .ok (.invokevirtual 480, 3) := by decide +kernel
theorem dX12_net_18 : decode cX12_net 18 = .ok (.ifCond .eq 11, 3) := by decide +kernel
theorem dX12_net_21 : decode cX12_net 21 = .ok (.aload_n 0, 1) := by decide +kernel
theorem dX12_net_22 : decode cX12_net 22 = .ok (.iload_n 3, 1) := by decide +kernel
theorem dX12_net_23 : decode cX12_net 23 = .ok (.invokevirtual 471, 3) := by decide +kernel
theorem dX12_net_26 : decode cX12_net 26 = .ok (.ifCond .ne 5, 3) := by decide +kernel
theorem dX12_net_29 : decode cX12_net 29 = .ok (.lconst 0, 1) := by decide +kernel
theorem dX12_net_30 : decode cX12_net 30 = .ok (.lreturn, 1) := by decide +kernel
theorem dX12_net_31 : decode cX12_net 31 = .ok (.aload_n 0, 1) := by decide +kernel
theorem dX12_net_32 : decode cX12_net 32 = .ok (.iload_n 2, 1) := by decide +kernel
theorem dX12_net_33 : decode cX12_net 33 = .ok (.iload_n 3, 1) := by decide +kernel
theorem dX12_net_34 : decode cX12_net 34 = .ok (.invokevirtual 487, 3) := by decide +kernel
theorem dX12_net_37 : decode cX12_net 37 = .ok (.aload_n 0, 1) := by decide +kernel
theorem dX12_net_38 : decode cX12_net 38 = .ok (.iload_n 1, 1) := by decide +kernel
theorem dX12_net_39 : decode cX12_net 39 = .ok (.invokevirtual 490, 3) := by decide +kernel
theorem dX12_net_42 : decode cX12_net 42 = .ok (.lreturn, 1) := by decide +kernel
theorem dX12_isNothing_0 : decode cX12_isNothing 0 = .ok (.lconst 0, 1) := by decide +kernel
theorem dX12_isNothing_1 : decode cX12_isNothing 1 = .ok (.lstore_n 2, 1) := by decide +kernel
theorem dX12_isNothing_2 : decode cX12_isNothing 2 = .ok (.iconst 0, 1) := by decide +kernel
theorem dX12_isNothing_3 : decode cX12_isNothing 3 = .ok (.istore 4, 2) := by decide +kernel
theorem dX12_isNothing_5 : decode cX12_isNothing 5 = .ok (.iload 4, 2) := by decide +kernel
theorem dX12_isNothing_7 : decode cX12_isNothing 7 = .ok (.iconst 5, 1) := by decide +kernel
theorem dX12_isNothing_8 : decode cX12_isNothing 8 = .ok (.if_icmp .ge 28, 3) := by decide +kernel
theorem dX12_isNothing_11 : decode cX12_isNothing 11 = .ok (.iload_n 1, 1) := by decide +kernel
theorem dX12_isNothing_12 : decode cX12_isNothing 12 = .ok (.iload 4, 2) := by decide +kernel
theorem dX12_isNothing_14 : decode cX12_isNothing 14 = .ok (.ishr, 1) := by decide +kernel
theorem dX12_isNothing_15 : decode cX12_isNothing 15 = .ok (.iconst 1, 1) := by decide +kernel
theorem dX12_isNothing_16 : decode cX12_isNothing 16 = .ok (.iand, 1) := by decide +kernel
theorem dX12_isNothing_17 : decode cX12_isNothing 17 = .ok (.iconst 1, 1) := by decide +kernel
theorem dX12_isNothing_18 : decode cX12_isNothing 18 = .ok (.if_icmp .ne 12, 3) := by decide +kernel
theorem dX12_isNothing_21 : decode cX12_isNothing 21 = .ok (.lload_n 2, 1) := by decide +kernel
theorem dX12_isNothing_22 : decode cX12_isNothing 22 = .ok (.aload_n 0, 1) := by decide +kernel
theorem dX12_isNothing_23 : decode cX12_isNothing 23 = .ok (.iload 4, 2) := by decide +kernel
theorem dX12_isNothing_25 : decode cX12_isNothing 25 = .ok (.invokevirtual 490, 3) := by decide +kernel
theorem dX12_isNothing_28 : decode cX12_isNothing 28 = .ok (.ladd, 1) := by decide +kernel
theorem dX12_isNothing_29 : decode cX12_isNothing 29 = .ok (.lstore_n 2, 1) := by decide +kernel
theorem dX12_isNothing_30 : decode cX12_isNothing 30 = .ok (.iinc 4 1, 3) := by decide +kernel
theorem dX12_isNothing_33 : decode cX12_isNothing 33 = .ok (.goto (-28), 3) := by decide +kernel
theorem dX12_isNothing_36 : decode cX12_isNothing 36 = .ok (.lload_n 2, 1) := by decide +kernel
theorem dX12_isNothing_37 : decode cX12_isNothing 37 = .ok (.lconst 0, 1) := by decide +kernel
theorem dX12_isNothing_38 : decode cX12_isNothing 38 = .ok (.lcmp, 1) := by decide +kernel
theorem dX12_isNothing_39 : decode cX12_isNothing 39 = .ok (.ifCond .ne 7, 3) := by decide +kernel
theorem dX12_isNothing_42 : decode cX12_isNothing 42 = .ok (.iconst 1, 1) := by decide +kernel
theorem dX12_isNothing_43 : decode cX12_isNothing 43 = .ok (.goto 4, 3) := by decide +kernel
theorem dX12_isNothing_46 : decode cX12_isNothing 46 = .ok (.iconst 0, 1) := by decide +kernel
theorem dX12_isNothing_47 : decode cX12_isNothing 47 = .ok (.ireturn, 1) := by decide +kernel
theorem dX12_payments_0 : decode cX12_payments 0 = .ok (.aload_n 0, 1) := by decide +kernel
theorem dX12_payments_1 : decode cX12_payments 1 = .ok (.iconst 0, 1) := by decide +kernel
theorem dX12_payments_2 : decode cX12_payments 2 = .ok (.putfield 208, 3) := by decide +kernel
theorem dX12_payments_5 : decode cX12_payments 5 = .ok (.aload_n 0, 1) := by decide +kernel
theorem dX12_payments_6 : decode cX12_payments 6 = .ok (.iload_n 1, 1) := by decide +kernel
theorem dX12_payments_7 : decode cX12_payments 7 = .ok (.invokevirtual 480, 3) := by decide +kernel
theorem dX12_payments_10 : decode cX12_payments 10 = .ok (.ifCond .eq 11, 3) := by decide +kernel
theorem dX12_payments_13 : decode cX12_payments 13 = .ok (.aload_n 0, 1) := by decide +kernel
theorem dX12_payments_14 : decode cX12_payments 14 = .ok (.iload_n 2, 1) := by decide +kernel
theorem dX12_payments_15 : decode cX12_payments 15 = .ok (.invokevirtual 471, 3) := by decide +kernel
theorem dX12_payments_18 : decode cX12_payments 18 = .ok (.ifCond .ne 5, 3) := by decide +kernel
theorem dX12_payments_21 : decode cX12_payments 21 = .ok (.iconst 0, 1) := by decide +kernel
theorem dX12_payments_22 : decode cX12_payments 22 = .ok (.ireturn, 1) := by decide +kernel
theorem dX12_payments_23 : decode cX12_payments 23 = .ok (.aload_n 0, 1) := by decide +kernel
theorem dX12_payments_24 : decode cX12_payments 24 = .ok (.iload_n 1, 1) := by decide +kernel
theorem dX12_payments_25 : decode cX12_payments 25 = .ok (.iload_n 2, 1) := by decide +kernel
theorem dX12_payments_26 : decode cX12_payments 26 = .ok (.invokevirtual 487, 3) := by decide +kernel
theorem dX12_payments_29 : decode cX12_payments 29 = .ok (.iconst 0, 1) := by decide +kernel
theorem dX12_payments_30 : decode cX12_payments 30 = .ok (.istore_n 3, 1) := by decide +kernel
theorem dX12_payments_31 : decode cX12_payments 31 = .ok (.iconst 0, 1) := by decide +kernel
theorem dX12_payments_32 : decode cX12_payments 32 = .ok (.istore 4, 2) := by decide +kernel
theorem dX12_payments_34 : decode cX12_payments 34 = .ok (.iconst 0, 1) := by decide +kernel
theorem dX12_payments_35 : decode cX12_payments 35 = .ok (.istore 5, 2) := by decide +kernel
theorem dX12_payments_37 : decode cX12_payments 37 = .ok (.iload 5, 2) := by decide +kernel
theorem dX12_payments_39 : decode cX12_payments 39 = .ok (.aload_n 0, 1) := by decide +kernel
theorem dX12_payments_40 : decode cX12_payments 40 = .ok (.getfield 224, 3) := by decide +kernel
theorem dX12_payments_43 : decode cX12_payments 43 = .ok (.if_icmp .ge 33, 3) := by decide +kernel
theorem dX12_payments_46 : decode cX12_payments 46 = .ok (.aload_n 0, 1) := by decide +kernel
theorem dX12_payments_47 : decode cX12_payments 47 = .ok (.iload 5, 2) := by decide +kernel
theorem dX12_payments_49 : decode cX12_payments 49 = .ok (.invokevirtual 490, 3) := by decide +kernel
theorem dX12_payments_52 : decode cX12_payments 52 = .ok (.lconst 0, 1) := by decide +kernel
theorem dX12_payments_53 : decode cX12_payments 53 = .ok (.lcmp, 1) := by decide +kernel
theorem dX12_payments_54 : decode cX12_payments 54 = .ok (.ifCond .ne 6, 3) := by decide +kernel
theorem dX12_payments_57 : decode cX12_payments 57 = .ok (.goto 13, 3) := by decide +kernel
theorem dX12_payments_60 : decode cX12_payments 60 = .ok (.iload_n 3, 1) := by decide +kernel
theorem dX12_payments_61 : decode cX12_payments 61 = .ok (.iconst 1, 1) := by decide +kernel
theorem dX12_payments_62 : decode cX12_payments 62 = .ok (.iload 5, 2) := by decide +kernel
theorem dX12_payments_64 : decode cX12_payments 64 = .ok (.ishl, 1) := by decide +kernel
theorem dX12_payments_65 : decode cX12_payments 65 = .ok (.ior, 1) := by decide +kernel
theorem dX12_payments_66 : decode cX12_payments 66 = .ok (.istore_n 3, 1) := by decide +kernel
theorem dX12_payments_67 : decode cX12_payments 67 = .ok (.iinc 4 1, 3) := by decide +kernel
theorem dX12_payments_70 : decode cX12_payments 70 = .ok (.iinc 5 1, 3) := by decide +kernel
theorem dX12_payments_73 : decode cX12_payments 73 = .ok (.goto (-36), 3) := by decide +kernel
theorem dX12_payments_76 : decode cX12_payments 76 = .ok (.iconst 0, 1) := by decide +kernel
theorem dX12_payments_77 : decode cX12_payments 77 = .ok (.istore 5, 2) := by decide +kernel
theorem dX12_payments_79 : decode cX12_payments 79 = .ok (.iload 5, 2) := by decide +kernel
theorem dX12_payments_81 : decode cX12_payments 81 = .ok (.bipush 32, 2) := by decide +kernel
theorem dX12_payments_83 : decode cX12_payments 83 = .ok (.if_icmp .ge 92, 3) := by decide +kernel
theorem dX12_payments_86 : decode cX12_payments 86 = .ok (.aload_n 0, 1) := by decide +kernel
theorem dX12_payments_87 : decode cX12_payments 87 = .ok (.getfield 199, 3) := by decide +kernel
theorem dX12_payments_90 : decode cX12_payments 90 = .ok (.iload 5, 2) := by decide +kernel
theorem dX12_payments_92 : decode cX12_payments 92 = .ok (.iconst 0, 1) := by decide +kernel
theorem dX12_payments_93 : decode cX12_payments 93 = .ok (.iastore, 1) := by decide +kernel
theorem dX12_payments_94 : decode cX12_payments 94 = .ok (.iload 5, 2) := by decide +kernel
theorem dX12_payments_96 : decode cX12_payments 96 = .ok (.istore 6, 2) := by decide +kernel
theorem dX12_payments_98 : decode cX12_payments 98 = .ok (.iload 6, 2) := by decide +kernel
theorem dX12_payments_100 : decode cX12_payments 100 = .ok (.ifCond .le 69, 3) := by decide +kernel
theorem dX12_payments_103 : decode cX12_payments 103 = .ok (.aload_n 0, 1) := by decide +kernel
theorem dX12_payments_104 : decode cX12_payments 104 = .ok (.iload 6, 2) := by decide +kernel
theorem dX12_payments_106 : decode cX12_payments 106 = .ok (.invokevirtual 493, 3) := by decide +kernel
theorem dX12_payments_109 : decode cX12_payments 109 = .ok (.ifCond .eq 48, 3) := by decide +kernel
theorem dX12_payments_112 : decode cX12_payments 112 = .ok (.aload_n 0, 1) := by decide +kernel
theorem dX12_payments_113 : decode cX12_payments 113 = .ok (.getfield 199, 3) := by decide +kernel
theorem dX12_payments_116 : decode cX12_payments 116 = .ok (.iload 5, 2) := by decide +kernel
theorem dX12_payments_118 : decode cX12_payments 118 = .ok (.iload 6, 2) := by decide +kernel
theorem dX12_payments_120 : decode cX12_payments 120 = .ok (.iconst (-1), 1) := by decide +kernel
theorem dX12_payments_121 : decode cX12_payments 121 = .ok (.ixor, 1) := by decide +kernel
theorem dX12_payments_122 : decode cX12_payments 122 = .ok (.iand, 1) := by decide +kernel
theorem dX12_payments_123 : decode cX12_payments 123 = .ok (.iaload, 1) := by decide +kernel
theorem dX12_payments_124 : decode cX12_payments 124 = .ok (.iconst 1, 1) := by decide +kernel
theorem dX12_payments_125 : decode cX12_payments 125 = .ok (.iadd, 1) := by decide +kernel
theorem dX12_payments_126 : decode cX12_payments 126 = .ok (.aload_n 0, 1) := by decide +kernel
theorem dX12_payments_127 : decode cX12_payments 127 = .ok (.getfield 199, 3) := by decide +kernel
theorem dX12_payments_130 : decode cX12_payments 130 = .ok (.iload 5, 2) := by decide +kernel
theorem dX12_payments_132 : decode cX12_payments 132 = .ok (.iaload, 1) := by decide +kernel
theorem dX12_payments_133 : decode cX12_payments 133 = .ok (.if_icmp .le 24, 3) := by decide +kernel
theorem dX12_payments_136 : decode cX12_payments 136 = .ok (.aload_n 0, 1) := by decide +kernel
theorem dX12_payments_137 : decode cX12_payments 137 = .ok (.getfield 199, 3) := by decide +kernel
theorem dX12_payments_140 : decode cX12_payments 140 = .ok (.iload 5, 2) := by decide +kernel
theorem dX12_payments_142 : decode cX12_payments 142 = .ok (.aload_n 0, 1) := by decide +kernel
theorem dX12_payments_143 : decode cX12_payments 143 = .ok (.getfield 199, 3) := by decide +kernel
theorem dX12_payments_146 : decode cX12_payments 146 = .ok (.iload 5, 2) := by decide +kernel
theorem dX12_payments_148 : decode cX12_payments 148 = .ok (.iload 6, 2) := by decide +kernel
theorem dX12_payments_150 : decode cX12_payments 150 = .ok (.iconst (-1), 1) := by decide +kernel
theorem dX12_payments_151 : decode cX12_payments 151 = .ok (.ixor, 1) := by decide +kernel
theorem dX12_payments_152 : decode cX12_payments 152 = .ok (.iand, 1) := by decide +kernel
theorem dX12_payments_153 : decode cX12_payments 153 = .ok (.iaload, 1) := by decide +kernel
theorem dX12_payments_154 : decode cX12_payments 154 = .ok (.iconst 1, 1) := by decide +kernel
theorem dX12_payments_155 : decode cX12_payments 155 = .ok (.iadd, 1) := by decide +kernel
theorem dX12_payments_156 : decode cX12_payments 156 = .ok (.iastore, 1) := by decide +kernel
theorem dX12_payments_157 : decode cX12_payments 157 = .ok (.iload 6, 2) := by decide +kernel
theorem dX12_payments_159 : decode cX12_payments 159 = .ok (.iconst 1, 1) := by decide +kernel
theorem dX12_payments_160 : decode cX12_payments 160 = .ok (.isub, 1) := by decide +kernel
theorem dX12_payments_161 : decode cX12_payments 161 = .ok (.iload 5, 2) := by decide +kernel
theorem dX12_payments_163 : decode cX12_payments 163 = .ok (.iand, 1) := by decide +kernel
theorem dX12_payments_164 : decode cX12_payments 164 = .ok (.istore 6, 2) := by decide +kernel
theorem dX12_payments_166 : decode cX12_payments 166 = .ok (.goto (-68), 3) := by decide +kernel
theorem dX12_payments_169 : decode cX12_payments 169 = .ok (.iinc 5 1, 3) := by decide +kernel
theorem dX12_payments_172 : decode cX12_payments 172 = .ok (.goto (-93), 3) := by decide +kernel
theorem dX12_payments_175 : decode cX12_payments 175 = .ok (.iload 4, 2) := by decide +kernel
theorem dX12_payments_177 : decode cX12_payments 177 = .ok (.aload_n 0, 1) := by decide +kernel
theorem dX12_payments_178 : decode cX12_payments 178 = .ok (.getfield 199, 3) := by decide +kernel
theorem dX12_payments_181 : decode cX12_payments 181 = .ok (.iload_n 3, 1) := by decide +kernel
theorem dX12_payments_182 : decode cX12_payments 182 = .ok (.iaload, 1) := by decide +kernel
theorem dX12_payments_183 : decode cX12_payments 183 = .ok (.isub, 1) := by decide +kernel
theorem dX12_payments_184 : decode cX12_payments 184 = .ok (.ireturn, 1) := by decide +kernel
theorem dX12_again_0 : decode cX12_again 0 = .ok (.aload_n 0, 1) := by decide +kernel
theorem dX12_again_1 : decode cX12_again 1 = .ok (.iconst 0, 1) := by decide +kernel
theorem dX12_again_2 : decode cX12_again 2 = .ok (.putfield 208, 3) := by decide +kernel
theorem dX12_again_5 : decode cX12_again 5 = .ok (.aload_n 0, 1) := by decide +kernel
theorem dX12_again_6 : decode cX12_again 6 = .ok (.iload 4, 2) := by decide +kernel
theorem dX12_again_8 : decode cX12_again 8 = .ok (.ifCond .lt 7, 3) := by decide +kernel
theorem dX12_again_11 : decode cX12_again 11 = .ok (.iconst 1, 1) := by decide +kernel
theorem dX12_again_12 : decode cX12_again 12 = .ok (.goto 4, 3) := by decide +kernel
theorem dX12_again_15 : decode cX12_again 15 = .ok (.iconst 0, 1) := by decide +kernel
theorem dX12_again_16 : decode cX12_again 16 = .ok (.iconst 1, 1) := by decide +kernel
theorem dX12_again_17 : decode cX12_again 17 = .ok (.invokevirtual 214, 3) := by decide +kernel
theorem dX12_again_20 : decode cX12_again 20 = .ok (.ifCond .ne 5, 3) := by decide +kernel
theorem dX12_again_23 : decode cX12_again 23 = .ok (.iconst 0, 1) := by decide +kernel
theorem dX12_again_24 : decode cX12_again 24 = .ok (.ireturn, 1) := by decide +kernel
theorem dX12_again_25 : decode cX12_again 25 = .ok (.iconst 0, 1) := by decide +kernel
theorem dX12_again_26 : decode cX12_again 26 = .ok (.istore 5, 2) := by decide +kernel
theorem dX12_again_28 : decode cX12_again 28 = .ok (.iconst 0, 1) := by decide +kernel
theorem dX12_again_29 : decode cX12_again 29 = .ok (.istore 6, 2) := by decide +kernel
theorem dX12_again_31 : decode cX12_again 31 = .ok (.iload 6, 2) := by decide +kernel
theorem dX12_again_33 : decode cX12_again 33 = .ok (.aload_n 0, 1) := by decide +kernel
theorem dX12_again_34 : decode cX12_again 34 = .ok (.getfield 221, 3) := by decide +kernel
theorem dX12_again_37 : decode cX12_again 37 = .ok (.if_icmp .ge 76, 3) := by decide +kernel
theorem dX12_again_40 : decode cX12_again 40 = .ok (.iload_n 1, 1) := by decide +kernel
theorem dX12_again_41 : decode cX12_again 41 = .ok (.aload_n 0, 1) := by decide +kernel
theorem dX12_again_42 : decode cX12_again 42 = .ok (.getfield 28, 3) := by decide +kernel
theorem dX12_again_45 : decode cX12_again 45 = .ok (.iload 6, 2) := by decide +kernel
theorem dX12_again_47 : decode cX12_again 47 = .ok (.iaload, 1) := by decide +kernel
theorem dX12_again_48 : decode cX12_again 48 = .ok (.iconst (-1), 1) := by decide +kernel
theorem dX12_again_49 : decode cX12_again 49 = .ok (.ixor, 1) := by decide +kernel
theorem dX12_again_50 : decode cX12_again 50 = .ok (.iand, 1) := by decide +kernel
theorem dX12_again_51 : decode cX12_again 51 = .ok (.ifCond .ne 39, 3) := by decide +kernel
theorem dX12_again_54 : decode cX12_again 54 = .ok (.iload_n 2, 1) := by decide +kernel
theorem dX12_again_55 : decode cX12_again 55 = .ok (.aload_n 0, 1) := by decide +kernel
theorem dX12_again_56 : decode cX12_again 56 = .ok (.getfield 31, 3) := by decide +kernel
theorem dX12_again_59 : decode cX12_again 59 = .ok (.iload 6, 2) := by decide +kernel
theorem dX12_again_61 : decode cX12_again 61 = .ok (.iaload, 1) := by decide +kernel
theorem dX12_again_62 : decode cX12_again 62 = .ok (.iload 4, 2) := by decide +kernel
theorem dX12_again_64 : decode cX12_again 64 = .ok (.invokestatic 496, 3) := by decide +kernel
theorem dX12_again_67 : decode cX12_again 67 = .ok (.ifCond .eq 23, 3) := by decide +kernel
theorem dX12_again_70 : decode cX12_again 70 = .ok (.iload_n 3, 1) := by decide +kernel
theorem dX12_again_71 : decode cX12_again 71 = .ok (.aload_n 0, 1) := by decide +kernel
theorem dX12_again_72 : decode cX12_again 72 = .ok (.getfield 34, 3) := by decide +kernel
theorem dX12_again_75 : decode cX12_again 75 = .ok (.iload 6, 2) := by decide +kernel
theorem dX12_again_77 : decode cX12_again 77 = .ok (.iaload, 1) := by decide +kernel
theorem dX12_again_78 : decode cX12_again 78 = .ok (.iload 4, 2) := by decide +kernel
theorem dX12_again_80 : decode cX12_again 80 = .ok (.invokestatic 496, 3) := by decide +kernel
theorem dX12_again_83 : decode cX12_again 83 = .ok (.ifCond .eq 7, 3) := by decide +kernel
theorem dX12_again_86 : decode cX12_again 86 = .ok (.iconst 1, 1) := by decide +kernel
theorem dX12_again_87 : decode cX12_again 87 = .ok (.goto 4, 3) := by decide +kernel
theorem dX12_again_90 : decode cX12_again 90 = .ok (.iconst 0, 1) := by decide +kernel
theorem dX12_again_91 : decode cX12_again 91 = .ok (.istore 7, 2) := by decide +kernel
theorem dX12_again_93 : decode cX12_again 93 = .ok (.iload 7, 2) := by decide +kernel
theorem dX12_again_95 : decode cX12_again 95 = .ok (.ifCond .eq 12, 3) := by decide +kernel
theorem dX12_again_98 : decode cX12_again 98 = .ok (.iload 5, 2) := by decide +kernel
theorem dX12_again_100 : decode cX12_again 100 = .ok (.iconst 1, 1) := by decide +kernel
theorem dX12_again_101 : decode cX12_again 101 = .ok (.iload 6, 2) := by decide +kernel
theorem dX12_again_103 : decode cX12_again 103 = .ok (.ishl, 1) := by decide +kernel
theorem dX12_again_104 : decode cX12_again 104 = .ok (.ior, 1) := by decide +kernel
theorem dX12_again_105 : decode cX12_again 105 = .ok (.istore 5, 2) := by decide +kernel
theorem dX12_again_107 : decode cX12_again 107 = .ok (.iinc 6 1, 3) := by decide +kernel
theorem dX12_again_110 : decode cX12_again 110 = .ok (.goto (-79), 3) := by decide +kernel
theorem dX12_again_113 : decode cX12_again 113 = .ok (.iload 5, 2) := by decide +kernel
theorem dX12_again_115 : decode cX12_again 115 = .ok (.ireturn, 1) := by decide +kernel
theorem dX12_isNear_0 : decode cX12_isNear 0 = .ok (.iload_n 0, 1) := by decide +kernel
theorem dX12_isNear_1 : decode cX12_isNear 1 = .ok (.i2l, 1) := by decide +kernel
theorem dX12_isNear_2 : decode cX12_isNear 2 = .ok (.iload_n 1, 1) := by decide +kernel
theorem dX12_isNear_3 : decode cX12_isNear 3 = .ok (.i2l, 1) := by decide +kernel
theorem dX12_isNear_4 : decode cX12_isNear 4 = .ok (.lsub, 1) := by decide +kernel
theorem dX12_isNear_5 : decode cX12_isNear 5 = .ok (.lstore_n 3, 1) := by decide +kernel
theorem dX12_isNear_6 : decode cX12_isNear 6 = .ok (.lload_n 3, 1) := by decide +kernel
theorem dX12_isNear_7 : decode cX12_isNear 7 = .ok (.iload_n 2, 1) := by decide +kernel
theorem dX12_isNear_8 : decode cX12_isNear 8 = .ok (.i2l, 1) := by decide +kernel
theorem dX12_isNear_9 : decode cX12_isNear 9 = .ok (.lcmp, 1) := by decide +kernel
theorem dX12_isNear_10 : decode cX12_isNear 10 = .ok (.ifCond .gt 15, 3) := by decide +kernel
theorem dX12_isNear_13 : decode cX12_isNear 13 = .ok (.lload_n 3, 1) := by decide +kernel
theorem dX12_isNear_14 : decode cX12_isNear 14 = .ok (.lneg, 1) := by decide +kernel
theorem dX12_isNear_15 : decode cX12_isNear 15 = .ok (.iload_n 2, 1) := by decide +kernel
theorem dX12_isNear_16 : decode cX12_isNear 16 = .ok (.i2l, 1) := by decide +kernel
theorem dX12_isNear_17 : decode cX12_isNear 17 = .ok (.lcmp, 1) := by decide +kernel
theorem dX12_isNear_18 : decode cX12_isNear 18 = .ok (.ifCond .gt 7, 3) := by decide +kernel
theorem dX12_isNear_21 : decode cX12_isNear 21 = .ok (.iconst 1, 1) := by decide +kernel
theorem dX12_isNear_22 : decode cX12_isNear 22 = .ok (.goto 4, 3) := by decide +kernel
theorem dX12_isNear_25 : decode cX12_isNear 25 = .ok (.iconst 0, 1) := by decide +kernel
theorem dX12_isNear_26 : decode cX12_isNear 26 = .ok (.ireturn, 1) := by decide +kernel
theorem dX12_handles_0 : decode cX12_handles 0 = .ok (.aload_n 0, 1) := by decide +kernel
theorem dX12_handles_1 : decode cX12_handles 1 = .ok (.iconst 0, 1) := by decide +kernel
theorem dX12_handles_2 : decode cX12_handles 2 = .ok (.putfield 499, 3) := by decide +kernel
theorem dX12_handles_5 : decode cX12_handles 5 = .ok (.iconst 0, 1) := by decide +kernel
theorem dX12_handles_6 : decode cX12_handles 6 = .ok (.istore_n 3, 1) := by decide +kernel
theorem dX12_handles_7 : decode cX12_handles 7 = .ok (.iload_n 3, 1) := by decide +kernel
theorem dX12_handles_8 : decode cX12_handles 8 = .ok (.aload_n 0, 1) := by decide +kernel
theorem dX12_handles_9 : decode cX12_handles 9 = .ok (.getfield 253, 3) := by decide +kernel
theorem dX12_handles_12 : decode cX12_handles 12 = .ok (.if_icmp .ge 125, 3) := by decide +kernel
theorem dX12_handles_15 : decode cX12_handles 15 = .ok (.aload_n 0, 1) := by decide +kernel
theorem dX12_handles_16 : decode cX12_handles 16 = .ok (.getfield 56, 3) := by decide +kernel
theorem dX12_handles_19 : decode cX12_handles 19 = .ok (.iload_n 3, 1) := by decide +kernel
theorem dX12_handles_20 : decode cX12_handles 20 = .ok (.iaload, 1) := by decide +kernel
theorem dX12_handles_21 : decode cX12_handles 21 = .ok (.iconst 2, 1) := by decide +kernel
theorem dX12_handles_22 : decode cX12_handles 22 = .ok (.if_icmp .lt 109, 3) := by decide +kernel
theorem dX12_handles_25 : decode cX12_handles 25 = .ok (.aload_n 0, 1) := by decide +kernel
theorem dX12_handles_26 : decode cX12_handles 26 = .ok (.getfield 56, 3) := by decide +kernel
theorem dX12_handles_29 : decode cX12_handles 29 = .ok (.iload_n 3, 1) := by decide +kernel
theorem dX12_handles_30 : decode cX12_handles 30 = .ok (.iaload, 1) := by decide +kernel
theorem dX12_handles_31 : decode cX12_handles 31 = .ok (.iconst 4, 1) := by decide +kernel
theorem dX12_handles_32 : decode cX12_handles 32 = .ok (.if_icmp .gt 99, 3) := by decide +kernel
theorem dX12_handles_35 : decode cX12_handles 35 = .ok (.aload_n 0, 1) := by decide +kernel
theorem dX12_handles_36 : decode cX12_handles 36 = .ok (.getfield 59, 3) := by decide +kernel
theorem dX12_handles_39 : decode cX12_handles 39 = .ok (.iload_n 3, 1) := by decide +kernel
theorem dX12_handles_40 : decode cX12_handles 40 = .ok (.iaload, 1) := by decide +kernel
theorem dX12_handles_41 : decode cX12_handles 41 = .ok (.iload_n 1, 1) := by decide +kernel
theorem dX12_handles_42 : decode cX12_handles 42 = .ok (.if_icmp .ne 89, 3) := by decide +kernel
theorem dX12_handles_45 : decode cX12_handles 45 = .ok (.aload_n 0, 1) := by decide +kernel
theorem dX12_handles_46 : decode cX12_handles 46 = .ok (.iload_n 3, 1) := by decide +kernel
theorem dX12_handles_47 : decode cX12_handles 47 = .ok (.iload_n 2, 1) := by decide +kernel
theorem dX12_handles_48 : decode cX12_handles 48 = .ok (.invokevirtual 260, 3) := by decide +kernel
theorem dX12_handles_51 : decode cX12_handles 51 = .ok (.ifCond .ne 6, 3) := by decide +kernel
theorem dX12_handles_54 : decode cX12_handles 54 = .ok (.goto 77, 3) := by decide +kernel
theorem dX12_handles_57 : decode cX12_handles 57 = .ok (.aload_n 0, 1) := by decide +kernel
theorem dX12_handles_58 : decode cX12_handles 58 = .ok (.getfield 499, 3) := by decide +kernel
theorem dX12_handles_61 : decode cX12_handles 61 = .ok (.istore 4, 2) := by decide +kernel
theorem dX12_handles_63 : decode cX12_handles 63 = .ok (.iload 4, 2) := by decide +kernel
theorem dX12_handles_65 : decode cX12_handles 65 = .ok (.ifCond .le 48, 3) := by decide +kernel
theorem dX12_handles_68 : decode cX12_handles 68 = .ok (.aload_n 0, 1) := by decide +kernel
theorem dX12_handles_69 : decode cX12_handles 69 = .ok (.getfield 68, 3) := by decide +kernel
theorem dX12_handles_72 : decode cX12_handles 72 = .ok (.aload_n 0, 1) := by decide +kernel
theorem dX12_handles_73 : decode cX12_handles 73 = .ok (.getfield 202, 3) := by decide +kernel
theorem dX12_handles_76 : decode cX12_handles 76 = .ok (.iload 4, 2) := by decide +kernel
theorem dX12_handles_78 : decode cX12_handles 78 = .ok (.iconst 1, 1) := by decide +kernel
theorem dX12_handles_79 : decode cX12_handles 79 = .ok (.isub, 1) := by decide +kernel
theorem dX12_handles_80 : decode cX12_handles 80 = .ok (.iaload, 1) := by decide +kernel
theorem dX12_handles_81 : decode cX12_handles 81 = .ok (.iaload, 1) := by decide +kernel
theorem dX12_handles_82 : decode cX12_handles 82 = .ok (.aload_n 0, 1) := by decide +kernel
theorem dX12_handles_83 : decode cX12_handles 83 = .ok (.getfield 68, 3) := by decide +kernel
theorem dX12_handles_86 : decode cX12_handles 86 = .ok (.iload_n 3, 1) := by decide +kernel
theorem dX12_handles_87 : decode cX12_handles 87 = .ok (.iaload, 1) := by decide +kernel
theorem dX12_handles_88 : decode cX12_handles 88 = .ok (.if_icmp .le 25, 3) := by decide +kernel
theorem dX12_handles_91 : decode cX12_handles 91 = .ok (.aload_n 0, 1) := by decide +kernel
theorem dX12_handles_92 : decode cX12_handles 92 = .ok (.getfield 202, 3) := by decide +kernel
theorem dX12_handles_95 : decode cX12_handles 95 = .ok (.iload 4, 2) := by decide +kernel
theorem dX12_handles_97 : decode cX12_handles 97 = .ok (.aload_n 0, 1) := by decide +kernel
theorem dX12_handles_98 : decode cX12_handles 98 = .ok (.getfield 202, 3) := by decide +kernel
theorem dX12_handles_101 : decode cX12_handles 101 = .ok (.iload 4, 2) := by decide +kernel
theorem dX12_handles_103 : decode cX12_handles 103 = .ok (.iconst 1, 1) := by decide +kernel
theorem dX12_handles_104 : decode cX12_handles 104 = .ok (.isub, 1) := by decide +kernel
theorem dX12_handles_105 : decode cX12_handles 105 = .ok (.iaload, 1) := by decide +kernel
theorem dX12_handles_106 : decode cX12_handles 106 = .ok (.iastore, 1) := by decide +kernel
theorem dX12_handles_107 : decode cX12_handles 107 = .ok (.iinc 4 (-1), 3) := by decide +kernel
theorem dX12_handles_110 : decode cX12_handles 110 = .ok (.goto (-47), 3) := by decide +kernel
theorem dX12_handles_113 : decode cX12_handles 113 = .ok (.aload_n 0, 1) := by decide +kernel
theorem dX12_handles_114 : decode cX12_handles 114 = .ok (.getfield 202, 3) := by decide +kernel
theorem dX12_handles_117 : decode cX12_handles 117 = .ok (.iload 4, 2) := by decide +kernel
theorem dX12_handles_119 : decode cX12_handles 119 = .ok (.iload_n 3, 1) := by decide +kernel
theorem dX12_handles_120 : decode cX12_handles 120 = .ok (.iastore, 1) := by decide +kernel
theorem dX12_handles_121 : decode cX12_handles 121 = .ok (.aload_n 0, 1) := by decide +kernel
theorem dX12_handles_122 : decode cX12_handles 122 = .ok (.dup, 1) := by decide +kernel
theorem dX12_handles_123 : decode cX12_handles 123 = .ok (.getfield 499, 3) := by decide +kernel
theorem dX12_handles_126 : decode cX12_handles 126 = .ok (.iconst 1, 1) := by decide +kernel
theorem dX12_handles_127 : decode cX12_handles 127 = .ok (.iadd, 1) := by decide +kernel
theorem dX12_handles_128 : decode cX12_handles 128 = .ok (.putfield 499, 3) := by decide +kernel
theorem dX12_handles_131 : decode cX12_handles 131 = .ok (.iinc 3 1, 3) := by decide +kernel
theorem dX12_handles_134 : decode cX12_handles 134 = .ok (.goto (-127), 3) := by decide +kernel
theorem dX12_handles_137 : decode cX12_handles 137 = .ok (.return_, 1) := by decide +kernel
theorem dX12_behind_0 : decode cX12_behind 0 = .ok (.aload_n 0, 1) := by decide +kernel
theorem dX12_behind_1 : decode cX12_behind 1 = .ok (.getfield 56, 3) := by decide +kernel
theorem dX12_behind_4 : decode cX12_behind 4 = .ok (.iload_n 1, 1) := by decide +kernel
theorem dX12_behind_5 : decode cX12_behind 5 = .ok (.iaload, 1) := by decide +kernel
theorem dX12_behind_6 : decode cX12_behind 6 = .ok (.iconst 4, 1) := by decide +kernel
theorem dX12_behind_7 : decode cX12_behind 7 = .ok (.if_icmp .ne 12, 3) := by decide +kernel
theorem dX12_behind_10 : decode cX12_behind 10 = .ok (.aload_n 0, 1) := by decide +kernel
theorem dX12_behind_11 : decode cX12_behind 11 = .ok (.getfield 62, 3) := by decide +kernel
theorem dX12_behind_14 : decode cX12_behind 14 = .ok (.iload_n 1, 1) := by decide +kernel
theorem dX12_behind_15 : decode cX12_behind 15 = .ok (.iaload, 1) := by decide +kernel
theorem dX12_behind_16 : decode cX12_behind 16 = .ok (.goto 9, 3) := by decide +kernel
theorem dX12_behind_19 : decode cX12_behind 19 = .ok (.aload_n 0, 1) := by decide +kernel
theorem dX12_behind_20 : decode cX12_behind 20 = .ok (.getfield 65, 3) := by decide +kernel
theorem dX12_behind_23 : decode cX12_behind 23 = .ok (.iload_n 1, 1) := by decide +kernel
theorem dX12_behind_24 : decode cX12_behind 24 = .ok (.iaload, 1) := by decide +kernel
theorem dX12_behind_25 : decode cX12_behind 25 = .ok (.ireturn, 1) := by decide +kernel
theorem dX12_with_0 : decode cX12_with 0 = .ok (.aload_n 0, 1) := by decide +kernel
theorem dX12_with_1 : decode cX12_with 1 = .ok (.iconst 0, 1) := by decide +kernel
theorem dX12_with_2 : decode cX12_with 2 = .ok (.putfield 208, 3) := by decide +kernel
theorem dX12_with_5 : decode cX12_with 5 = .ok (.aload_n 0, 1) := by decide +kernel
theorem dX12_with_6 : decode cX12_with 6 = .ok (.iload_n 1, 1) := by decide +kernel
theorem dX12_with_7 : decode cX12_with 7 = .ok (.invokevirtual 243, 3) := by decide +kernel
theorem dX12_with_10 : decode cX12_with 10 = .ok (.ifCond .eq 23, 3) := by decide +kernel
theorem dX12_with_13 : decode cX12_with 13 = .ok (.aload_n 0, 1) := by decide +kernel
theorem dX12_with_14 : decode cX12_with 14 = .ok (.iload_n 2, 1) := by decide +kernel
theorem dX12_with_15 : decode cX12_with 15 = .ok (.invokestatic 235, 3) := by decide +kernel
theorem dX12_with_18 : decode cX12_with 18 = .ok (.iconst 1, 1) := by decide +kernel
theorem dX12_with_19 : decode cX12_with 19 = .ok (.invokevirtual 214, 3) := by decide +kernel
theorem dX12_with_22 : decode cX12_with 22 = .ok (.ifCond .eq 11, 3) := by decide +kernel
theorem dX12_with_25 : decode cX12_with 25 = .ok (.aload_n 0, 1) := by decide +kernel
theorem dX12_with_26 : decode cX12_with 26 = .ok (.iload_n 3, 1) := by decide +kernel
theorem dX12_with_27 : decode cX12_with 27 = .ok (.invokevirtual 471, 3) := by decide +kernel
theorem dX12_with_30 : decode cX12_with 30 = .ok (.ifCond .ne 5, 3) := by decide +kernel
theorem dX12_with_33 : decode cX12_with 33 = .ok (.iconst 0, 1) := by decide +kernel
theorem dX12_with_34 : decode cX12_with 34 = .ok (.ireturn, 1) := by decide +kernel
theorem dX12_with_35 : decode cX12_with 35 = .ok (.aload_n 0, 1) := by decide +kernel
theorem dX12_with_36 : decode cX12_with 36 = .ok (.iload_n 1, 1) := by decide +kernel
theorem dX12_with_37 : decode cX12_with 37 = .ok (.iload_n 3, 1) := by decide +kernel
theorem dX12_with_38 : decode cX12_with 38 = .ok (.invokevirtual 502, 3) := by decide +kernel
theorem dX12_with_41 : decode cX12_with 41 = .ok (.iconst (-1), 1) := by decide +kernel
theorem dX12_with_42 : decode cX12_with 42 = .ok (.istore 4, 2) := by decide +kernel
theorem dX12_with_44 : decode cX12_with 44 = .ok (.iconst 0, 1) := by decide +kernel
theorem dX12_with_45 : decode cX12_with 45 = .ok (.istore 5, 2) := by decide +kernel
theorem dX12_with_47 : decode cX12_with 47 = .ok (.iload 5, 2) := by decide +kernel
theorem dX12_with_49 : decode cX12_with 49 = .ok (.aload_n 0, 1) := by decide +kernel
theorem dX12_with_50 : decode cX12_with 50 = .ok (.getfield 499, 3) := by decide +kernel
theorem dX12_with_53 : decode cX12_with 53 = .ok (.if_icmp .ge 38, 3) := by decide +kernel
theorem dX12_with_56 : decode cX12_with 56 = .ok (.aload_n 0, 1) := by decide +kernel
theorem dX12_with_57 : decode cX12_with 57 = .ok (.getfield 68, 3) := by decide +kernel
theorem dX12_with_60 : decode cX12_with 60 = .ok (.aload_n 0, 1) := by decide +kernel
theorem dX12_with_61 : decode cX12_with 61 = .ok (.getfield 202, 3) := by decide +kernel
theorem dX12_with_64 : decode cX12_with 64 = .ok (.iload 5, 2) := by decide +kernel
theorem dX12_with_66 : decode cX12_with 66 = .ok (.iaload, 1) := by decide +kernel
theorem dX12_with_67 : decode cX12_with 67 = .ok (.iaload, 1) := by decide +kernel
theorem dX12_with_68 : decode cX12_with 68 = .ok (.iload_n 2, 1) := by decide +kernel
theorem dX12_with_69 : decode cX12_with 69 = .ok (.if_icmp .gt 16, 3) := by decide +kernel
theorem dX12_with_72 : decode cX12_with 72 = .ok (.aload_n 0, 1) := by decide +kernel
theorem dX12_with_73 : decode cX12_with 73 = .ok (.aload_n 0, 1) := by decide +kernel
theorem dX12_with_74 : decode cX12_with 74 = .ok (.getfield 202, 3) := by decide +kernel
theorem dX12_with_77 : decode cX12_with 77 = .ok (.iload 5, 2) := by decide +kernel
theorem dX12_with_79 : decode cX12_with 79 = .ok (.iaload, 1) := by decide +kernel
theorem dX12_with_80 : decode cX12_with 80 = .ok (.invokevirtual 505, 3) := by decide +kernel
theorem dX12_with_83 : decode cX12_with 83 = .ok (.istore 4, 2) := by decide +kernel
theorem dX12_with_85 : decode cX12_with 85 = .ok (.iinc 5 1, 3) := by decide +kernel
theorem dX12_with_88 : decode cX12_with 88 = .ok (.goto (-41), 3) := by decide +kernel
theorem dX12_with_91 : decode cX12_with 91 = .ok (.iload 4, 2) := by decide +kernel
theorem dX12_with_93 : decode cX12_with 93 = .ok (.ireturn, 1) := by decide +kernel
theorem dX12_hidden_0 : decode cX12_hidden 0 = .ok (.aload_n 0, 1) := by decide +kernel
theorem dX12_hidden_1 : decode cX12_hidden 1 = .ok (.iconst 0, 1) := by decide +kernel
theorem dX12_hidden_2 : decode cX12_hidden 2 = .ok (.putfield 208, 3) := by decide +kernel
theorem dX12_hidden_5 : decode cX12_hidden 5 = .ok (.aload_n 0, 1) := by decide +kernel
theorem dX12_hidden_6 : decode cX12_hidden 6 = .ok (.iload_n 1, 1) := by decide +kernel
theorem dX12_hidden_7 : decode cX12_hidden 7 = .ok (.invokevirtual 243, 3) := by decide +kernel
theorem dX12_hidden_10 : decode cX12_hidden 10 = .ok (.ifCond .eq 34, 3) := by decide +kernel
theorem dX12_hidden_13 : decode cX12_hidden 13 = .ok (.aload_n 0, 1) := by decide +kernel
theorem dX12_hidden_14 : decode cX12_hidden 14 = .ok (.iload_n 3, 1) := by decide +kernel
theorem dX12_hidden_15 : decode cX12_hidden 15 = .ok (.ifCond .lt 12, 3) := by decide +kernel
theorem dX12_hidden_18 : decode cX12_hidden 18 = .ok (.iload_n 3, 1) := by decide +kernel
theorem dX12_hidden_19 : decode cX12_hidden 19 = .ok (.iconst 3, 1) := by decide +kernel
theorem dX12_hidden_20 : decode cX12_hidden 20 = .ok (.if_icmp .gt 7, 3) := by decide +kernel
theorem dX12_hidden_23 : decode cX12_hidden 23 = .ok (.iconst 1, 1) := by decide +kernel
theorem dX12_hidden_24 : decode cX12_hidden 24 = .ok (.goto 4, 3) := by decide +kernel
theorem dX12_hidden_27 : decode cX12_hidden 27 = .ok (.iconst 0, 1) := by decide +kernel
theorem dX12_hidden_28 : decode cX12_hidden 28 = .ok (.iconst 1, 1) := by decide +kernel
theorem dX12_hidden_29 : decode cX12_hidden 29 = .ok (.invokevirtual 214, 3) := by decide +kernel
theorem dX12_hidden_32 : decode cX12_hidden 32 = .ok (.ifCond .eq 12, 3) := by decide +kernel
theorem dX12_hidden_35 : decode cX12_hidden 35 = .ok (.aload_n 0, 1) := by decide +kernel
theorem dX12_hidden_36 : decode cX12_hidden 36 = .ok (.iload 4, 2) := by decide +kernel
theorem dX12_hidden_38 : decode cX12_hidden 38 = .ok (.invokevirtual 471, 3) := by decide +kernel
theorem dX12_hidden_41 : decode cX12_hidden 41 = .ok (.ifCond .ne 5, 3) := by decide +kernel
theorem dX12_hidden_44 : decode cX12_hidden 44 = .ok (.iconst 0, 1) := by decide +kernel
theorem dX12_hidden_45 : decode cX12_hidden 45 = .ok (.ireturn, 1) := by decide +kernel
theorem dX12_hidden_46 : decode cX12_hidden 46 = .ok (.aload_n 0, 1) := by decide +kernel
theorem dX12_hidden_47 : decode cX12_hidden 47 = .ok (.iload_n 1, 1) := by decide +kernel
theorem dX12_hidden_48 : decode cX12_hidden 48 = .ok (.iload 4, 2) := by decide +kernel
theorem dX12_hidden_50 : decode cX12_hidden 50 = .ok (.invokevirtual 502, 3) := by decide +kernel
theorem dX12_hidden_53 : decode cX12_hidden 53 = .ok (.iconst 0, 1) := by decide +kernel
theorem dX12_hidden_54 : decode cX12_hidden 54 = .ok (.istore 5, 2) := by decide +kernel
theorem dX12_hidden_56 : decode cX12_hidden 56 = .ok (.iconst (-1), 1) := by decide +kernel
theorem dX12_hidden_57 : decode cX12_hidden 57 = .ok (.istore 6, 2) := by decide +kernel
theorem dX12_hidden_59 : decode cX12_hidden 59 = .ok (.iconst 1, 1) := by decide +kernel
theorem dX12_hidden_60 : decode cX12_hidden 60 = .ok (.istore 7, 2) := by decide +kernel
theorem dX12_hidden_62 : decode cX12_hidden 62 = .ok (.iload 7, 2) := by decide +kernel
theorem dX12_hidden_64 : decode cX12_hidden 64 = .ok (.aload_n 0, 1) := by decide +kernel
theorem dX12_hidden_65 : decode cX12_hidden 65 = .ok (.getfield 499, 3) := by decide +kernel
theorem dX12_hidden_68 : decode cX12_hidden 68 = .ok (.if_icmp .ge 53, 3) := by decide +kernel
theorem dX12_hidden_71 : decode cX12_hidden 71 = .ok (.aload_n 0, 1) := by decide +kernel
theorem dX12_hidden_72 : decode cX12_hidden 72 = .ok (.getfield 62, 3) := by decide +kernel
theorem dX12_hidden_75 : decode cX12_hidden 75 = .ok (.aload_n 0, 1) := by decide +kernel
theorem dX12_hidden_76 : decode cX12_hidden 76 = .ok (.getfield 202, 3) := by decide +kernel
theorem dX12_hidden_79 : decode cX12_hidden 79 = .ok (.iload 7, 2) := by decide +kernel
theorem dX12_hidden_81 : decode cX12_hidden 81 = .ok (.iaload, 1) := by decide +kernel
theorem dX12_hidden_82 : decode cX12_hidden 82 = .ok (.iaload, 1) := by decide +kernel
theorem dX12_hidden_83 : decode cX12_hidden 83 = .ok (.aload_n 0, 1) := by decide +kernel
theorem dX12_hidden_84 : decode cX12_hidden 84 = .ok (.aload_n 0, 1) := by decide +kernel
theorem dX12_hidden_85 : decode cX12_hidden 85 = .ok (.getfield 202, 3) := by decide +kernel
theorem dX12_hidden_88 : decode cX12_hidden 88 = .ok (.iload 7, 2) := by decide +kernel
theorem dX12_hidden_90 : decode cX12_hidden 90 = .ok (.iconst 1, 1) := by decide +kernel
theorem dX12_hidden_91 : decode cX12_hidden 91 = .ok (.isub, 1) := by decide +kernel
theorem dX12_hidden_92 : decode cX12_hidden 92 = .ok (.iaload, 1) := by decide +kernel
theorem dX12_hidden_93 : decode cX12_hidden 93 = .ok (.invokevirtual 505, 3) := by decide +kernel
theorem dX12_hidden_96 : decode cX12_hidden 96 = .ok (.if_icmp .ne 6, 3) := by decide +kernel
theorem dX12_hidden_99 : decode cX12_hidden 99 = .ok (.goto 16, 3) := by decide +kernel
theorem dX12_hidden_102 : decode cX12_hidden 102 = .ok (.iload 5, 2) := by decide +kernel
theorem dX12_hidden_104 : decode cX12_hidden 104 = .ok (.iload_n 2, 1) := by decide +kernel
theorem dX12_hidden_105 : decode cX12_hidden 105 = .ok (.if_icmp .ne 7, 3) := by decide +kernel
theorem dX12_hidden_108 : decode cX12_hidden 108 = .ok (.iload 7, 2) := by decide +kernel
theorem dX12_hidden_110 : decode cX12_hidden 110 = .ok (.istore 6, 2) := by decide +kernel
theorem dX12_hidden_112 : decode cX12_hidden 112 = .ok (.iinc 5 1, 3) := by decide +kernel
theorem dX12_hidden_115 : decode cX12_hidden 115 = .ok (.iinc 7 1, 3) := by decide +kernel
theorem dX12_hidden_118 : decode cX12_hidden 118 = .ok (.goto (-56), 3) := by decide +kernel
theorem dX12_hidden_121 : decode cX12_hidden 121 = .ok (.iload_n 2, 1) := by decide +kernel
theorem dX12_hidden_122 : decode cX12_hidden 122 = .ok (.iconst (-1), 1) := by decide +kernel
theorem dX12_hidden_123 : decode cX12_hidden 123 = .ok (.if_icmp .ne 6, 3) := by decide +kernel
theorem dX12_hidden_126 : decode cX12_hidden 126 = .ok (.iload 5, 2) := by decide +kernel
theorem dX12_hidden_128 : decode cX12_hidden 128 = .ok (.ireturn, 1) := by decide +kernel
theorem dX12_hidden_129 : decode cX12_hidden 129 = .ok (.aload_n 0, 1) := by decide +kernel
theorem dX12_hidden_130 : decode cX12_hidden 130 = .ok (.iload_n 2, 1) := by decide +kernel
theorem dX12_hidden_131 : decode cX12_hidden 131 = .ok (.ifCond .lt 13, 3) := by decide +kernel
theorem dX12_hidden_134 : decode cX12_hidden 134 = .ok (.iload 6, 2) := by decide +kernel
theorem dX12_hidden_136 : decode cX12_hidden 136 = .ok (.iconst (-1), 1) := by decide +kernel
theorem dX12_hidden_137 : decode cX12_hidden 137 = .ok (.if_icmp .eq 7, 3) := by decide +kernel
theorem dX12_hidden_140 : decode cX12_hidden 140 = .ok (.iconst 1, 1) := by decide +kernel
theorem dX12_hidden_141 : decode cX12_hidden 141 = .ok (.goto 4, 3) := by decide +kernel
theorem dX12_hidden_144 : decode cX12_hidden 144 = .ok (.iconst 0, 1) := by decide +kernel
theorem dX12_hidden_145 : decode cX12_hidden 145 = .ok (.iconst 1, 1) := by decide +kernel
theorem dX12_hidden_146 : decode cX12_hidden 146 = .ok (.invokevirtual 214, 3) := by decide +kernel
theorem dX12_hidden_149 : decode cX12_hidden 149 = .ok (.ifCond .ne 5, 3) := by decide +kernel
theorem dX12_hidden_152 : decode cX12_hidden 152 = .ok (.iconst 0, 1) := by decide +kernel
theorem dX12_hidden_153 : decode cX12_hidden 153 = .ok (.ireturn, 1) := by decide +kernel
theorem dX12_hidden_154 : decode cX12_hidden 154 = .ok (.iload_n 3, 1) := by decide +kernel
theorem dX12_hidden_155 : decode cX12_hidden 155 = .ok (.ifCond .ne 20, 3) := by decide +kernel
theorem dX12_hidden_158 : decode cX12_hidden 158 = .ok (.aload_n 0, 1) := by decide +kernel
theorem dX12_hidden_159 : decode cX12_hidden 159 = .ok (.getfield 68, 3) := by decide +kernel
theorem dX12_hidden_162 : decode cX12_hidden 162 = .ok (.aload_n 0, 1) := by decide +kernel
theorem dX12_hidden_163 : decode cX12_hidden 163 = .ok (.getfield 202, 3) := by decide +kernel
theorem dX12_hidden_166 : decode cX12_hidden 166 = .ok (.iload 6, 2) := by decide +kernel
theorem dX12_hidden_168 : decode cX12_hidden 168 = .ok (.iconst 1, 1) := by decide +kernel
theorem dX12_hidden_169 : decode cX12_hidden 169 = .ok (.isub, 1) := by decide +kernel
theorem dX12_hidden_170 : decode cX12_hidden 170 = .ok (.iaload, 1) := by decide +kernel
theorem dX12_hidden_171 : decode cX12_hidden 171 = .ok (.iaload, 1) := by decide +kernel
theorem dX12_hidden_172 : decode cX12_hidden 172 = .ok (.goto 56, 3) := by decide +kernel
theorem dX12_hidden_175 : decode cX12_hidden 175 = .ok (.iload_n 3, 1) := by decide +kernel
theorem dX12_hidden_176 : decode cX12_hidden 176 = .ok (.iconst 1, 1) := by decide +kernel
theorem dX12_hidden_177 : decode cX12_hidden 177 = .ok (.if_icmp .ne 18, 3) := by decide +kernel
theorem dX12_hidden_180 : decode cX12_hidden 180 = .ok (.aload_n 0, 1) := by decide +kernel
theorem dX12_hidden_181 : decode cX12_hidden 181 = .ok (.getfield 68, 3) := by decide +kernel
theorem dX12_hidden_184 : decode cX12_hidden 184 = .ok (.aload_n 0, 1) := by decide +kernel
theorem dX12_hidden_185 : decode cX12_hidden 185 = .ok (.getfield 202, 3) := by decide +kernel
theorem dX12_hidden_188 : decode cX12_hidden 188 = .ok (.iload 6, 2) := by decide +kernel
theorem dX12_hidden_190 : decode cX12_hidden 190 = .ok (.iaload, 1) := by decide +kernel
theorem dX12_hidden_191 : decode cX12_hidden 191 = .ok (.iaload, 1) := by decide +kernel
theorem dX12_hidden_192 : decode cX12_hidden 192 = .ok (.goto 36, 3) := by decide +kernel
theorem dX12_hidden_195 : decode cX12_hidden 195 = .ok (.iload_n 3, 1) := by decide +kernel
theorem dX12_hidden_196 : decode cX12_hidden 196 = .ok (.iconst 2, 1) := by decide +kernel
theorem dX12_hidden_197 : decode cX12_hidden 197 = .ok (.if_icmp .ne 19, 3) := by decide +kernel
theorem dX12_hidden_200 : decode cX12_hidden 200 = .ok (.aload_n 0, 1) := by decide +kernel
theorem dX12_hidden_201 : decode cX12_hidden 201 = .ok (.aload_n 0, 1) := by decide +kernel
theorem dX12_hidden_202 : decode cX12_hidden 202 = .ok (.getfield 202, 3) := by decide +kernel
theorem dX12_hidden_205 : decode cX12_hidden 205 = .ok (.iload 6, 2) := by decide +kernel
theorem dX12_hidden_207 : decode cX12_hidden 207 = .ok (.iconst 1, 1) := by decide +kernel
theorem dX12_hidden_208 : decode cX12_hidden 208 = .ok (.isub, 1) := by decide +kernel
theorem dX12_hidden_209 : decode cX12_hidden 209 = .ok (.iaload, 1) := by decide +kernel
theorem dX12_hidden_210 : decode cX12_hidden 210 = .ok (.invokevirtual 505, 3) := by decide +kernel
theorem dX12_hidden_213 : decode cX12_hidden 213 = .ok (.goto 15, 3) := by decide +kernel
theorem dX12_hidden_216 : decode cX12_hidden 216 = .ok (.aload_n 0, 1) := by decide +kernel
theorem dX12_hidden_217 : decode cX12_hidden 217 = .ok (.getfield 62, 3) := by decide +kernel
theorem dX12_hidden_220 : decode cX12_hidden 220 = .ok (.aload_n 0, 1) := by decide +kernel
theorem dX12_hidden_221 : decode cX12_hidden 221 = .ok (.getfield 202, 3) := by decide +kernel
theorem dX12_hidden_224 : decode cX12_hidden 224 = .ok (.iload 6, 2) := by decide +kernel
theorem dX12_hidden_226 : decode cX12_hidden 226 = .ok (.iaload, 1) := by decide +kernel
theorem dX12_hidden_227 : decode cX12_hidden 227 = .ok (.iaload, 1) := by decide +kernel
theorem dX12_hidden_228 : decode cX12_hidden 228 = .ok (.ireturn, 1) := by decide +kernel
theorem dX12_attempt_0 : decode cX12_attempt 0 = .ok (.aload_n 0, 1) := by decide +kernel
theorem dX12_attempt_1 : decode cX12_attempt 1 = .ok (.iconst 0, 1) := by decide +kernel
theorem dX12_attempt_2 : decode cX12_attempt 2 = .ok (.putfield 208, 3) := by decide +kernel
theorem dX12_attempt_5 : decode cX12_attempt 5 = .ok (.aload_n 0, 1) := by decide +kernel
theorem dX12_attempt_6 : decode cX12_attempt 6 = .ok (.iload_n 1, 1) := by decide +kernel
theorem dX12_attempt_7 : decode cX12_attempt 7 = .ok (.invokevirtual 228, 3) := by decide +kernel
theorem dX12_attempt_10 : decode cX12_attempt 10 = .ok (.ifCond .eq 28, 3) := by decide +kernel
theorem dX12_attempt_13 : decode cX12_attempt 13 = .ok (.aload_n 0, 1) := by decide +kernel
theorem dX12_attempt_14 : decode cX12_attempt 14 = .ok (.iload_n 2, 1) := by decide +kernel
theorem dX12_attempt_15 : decode cX12_attempt 15 = .ok (.ifCond .lt 15, 3) := by decide +kernel
theorem dX12_attempt_18 : decode cX12_attempt 18 = .ok (.iload_n 2, 1) := by decide +kernel
theorem dX12_attempt_19 : decode cX12_attempt 19 = .ok (.aload_n 0, 1) := by decide +kernel
theorem dX12_attempt_20 : decode cX12_attempt 20 = .ok (.getfield 276, 3) := by decide +kernel
theorem dX12_attempt_23 : decode cX12_attempt 23 = .ok (.if_icmp .gt 7, 3) := by decide +kernel
theorem dX12_attempt_26 : decode cX12_attempt 26 = .ok (.iconst 1, 1) := by decide +kernel
theorem dX12_attempt_27 : decode cX12_attempt 27 = .ok (.goto 4, 3) := by decide +kernel
theorem dX12_attempt_30 : decode cX12_attempt 30 = .ok (.iconst 0, 1) := by decide +kernel
theorem dX12_attempt_31 : decode cX12_attempt 31 = .ok (.iconst 2, 1) := by decide +kernel
theorem dX12_attempt_32 : decode cX12_attempt 32 = .ok (.invokevirtual 214, 3) := by decide +kernel
theorem dX12_attempt_35 : decode cX12_attempt 35 = .ok (.ifCond .ne 5, 3) := by decide +kernel
theorem dX12_attempt_38 : decode cX12_attempt 38 = .ok (.iconst 0, 1) := by decide +kernel
theorem dX12_attempt_39 : decode cX12_attempt 39 = .ok (.ireturn, 1) := by decide +kernel
theorem dX12_attempt_40 : decode cX12_attempt 40 = .ok (.aload_n 0, 1) := by decide +kernel
theorem dX12_attempt_41 : decode cX12_attempt 41 = .ok (.iconst (-1), 1) := by decide +kernel
theorem dX12_attempt_42 : decode cX12_attempt 42 = .ok (.putfield 101, 3) := by decide +kernel
theorem dX12_attempt_45 : decode cX12_attempt 45 = .ok (.aload_n 0, 1) := by decide +kernel
theorem dX12_attempt_46 : decode cX12_attempt 46 = .ok (.iconst 0, 1) := by decide +kernel
theorem dX12_attempt_47 : decode cX12_attempt 47 = .ok (.putfield 326, 3) := by decide +kernel
theorem dX12_attempt_50 : decode cX12_attempt 50 = .ok (.iload_n 3, 1) := by decide +kernel
theorem dX12_attempt_51 : decode cX12_attempt 51 = .ok (.invokestatic 235, 3) := by decide +kernel
theorem dX12_attempt_54 : decode cX12_attempt 54 = .ok (.ifCond .ne 11, 3) := by decide +kernel
theorem dX12_attempt_57 : decode cX12_attempt 57 = .ok (.aload_n 0, 1) := by decide +kernel
theorem dX12_attempt_58 : decode cX12_attempt 58 = .ok (.iconst 0, 1) := by decide +kernel
theorem dX12_attempt_59 : decode cX12_attempt 59 = .ok (.putfield 276, 3) := by decide +kernel
theorem dX12_attempt_62 : decode cX12_attempt 62 = .ok (.bipush 9, 2) := by decide +kernel
theorem dX12_attempt_64 : decode cX12_attempt 64 = .ok (.ireturn, 1) := by decide +kernel
theorem dX12_attempt_65 : decode cX12_attempt 65 = .ok (.aload_n 0, 1) := by decide +kernel
theorem dX12_attempt_66 : decode cX12_attempt 66 = .ok (.bipush 12, 2) := by decide +kernel
theorem dX12_attempt_68 : decode cX12_attempt 68 = .ok (.iload_n 2, 1) := by decide +kernel
theorem dX12_attempt_69 : decode cX12_attempt 69 = .ok (.invokevirtual 394, 3) := by decide +kernel
theorem dX12_attempt_72 : decode cX12_attempt 72 = .ok (.aload_n 0, 1) := by decide +kernel
theorem dX12_attempt_73 : decode cX12_attempt 73 = .ok (.invokevirtual 341, 3) := by decide +kernel
theorem dX12_attempt_76 : decode cX12_attempt 76 = .ok (.ifCond .ne 8, 3) := by decide +kernel
theorem dX12_attempt_79 : decode cX12_attempt 79 = .ok (.aload_n 0, 1) := by decide +kernel
theorem dX12_attempt_80 : decode cX12_attempt 80 = .ok (.getfield 326, 3) := by decide +kernel
theorem dX12_attempt_83 : decode cX12_attempt 83 = .ok (.ireturn, 1) := by decide +kernel
theorem dX12_attempt_84 : decode cX12_attempt 84 = .ok (.aload_n 0, 1) := by decide +kernel
theorem dX12_attempt_85 : decode cX12_attempt 85 = .ok (.getfield 105, 3) := by decide +kernel
theorem dX12_attempt_88 : decode cX12_attempt 88 = .ok (.bipush 12, 2) := by decide +kernel
theorem dX12_attempt_90 : decode cX12_attempt 90 = .ok (.iload_n 1, 1) := by decide +kernel
theorem dX12_attempt_91 : decode cX12_attempt 91 = .ok (.iastore, 1) := by decide +kernel
theorem dX12_attempt_92 : decode cX12_attempt 92 = .ok (.aload_n 0, 1) := by decide +kernel
theorem dX12_attempt_93 : decode cX12_attempt 93 = .ok (.getfield 108, 3) := by decide +kernel
theorem dX12_attempt_96 : decode cX12_attempt 96 = .ok (.bipush 12, 2) := by decide +kernel
theorem dX12_attempt_98 : decode cX12_attempt 98 = .ok (.iload_n 3, 1) := by decide +kernel
theorem dX12_attempt_99 : decode cX12_attempt 99 = .ok (.iastore, 1) := by decide +kernel
theorem dX12_attempt_100 : decode cX12_attempt 100 = .ok (.aload_n 0, 1) := by decide +kernel
theorem dX12_attempt_101 : decode cX12_attempt 101 = .ok (.aload_n 0, 1) := by decide +kernel
theorem dX12_attempt_102 : decode cX12_attempt 102 = .ok (.getfield 250, 3) := by decide +kernel
theorem dX12_attempt_105 : decode cX12_attempt 105 = .ok (.invokevirtual 474, 3) := by decide +kernel
theorem dX12_attempt_108 : decode cX12_attempt 108 = .ok (.iconst 0, 1) := by decide +kernel
theorem dX12_attempt_109 : decode cX12_attempt 109 = .ok (.istore 4, 2) := by decide +kernel
theorem dX12_attempt_111 : decode cX12_attempt 111 = .ok (.iload 4, 2) := by decide +kernel
theorem dX12_attempt_113 : decode cX12_attempt 113 = .ok (.bipush 30, 2) := by decide +kernel
theorem dX12_attempt_115 : decode cX12_attempt 115 = .ok (.if_icmp .ge 17, 3) := by decide +kernel
theorem dX12_attempt_118 : decode cX12_attempt 118 = .ok (.aload_n 0, 1) := by decide +kernel
theorem dX12_attempt_119 : decode cX12_attempt 119 = .ok (.getfield 205, 3) := by decide +kernel
theorem dX12_attempt_122 : decode cX12_attempt 122 = .ok (.iload 4, 2) := by decide +kernel
theorem dX12_attempt_124 : decode cX12_attempt 124 = .ok (.lconst 0, 1) := by decide +kernel
theorem dX12_attempt_125 : decode cX12_attempt 125 = .ok (.lastore, 1) := by decide +kernel
theorem dX12_attempt_126 : decode cX12_attempt 126 = .ok (.iinc 4 1, 3) := by decide +kernel
theorem dX12_attempt_129 : decode cX12_attempt 129 = .ok (.goto (-18), 3) := by decide +kernel
theorem dX12_attempt_132 : decode cX12_attempt 132 = .ok (.iconst 0, 1) := by decide +kernel
theorem dX12_attempt_133 : decode cX12_attempt 133 = .ok (.istore 4, 2) := by decide +kernel
theorem dX12_attempt_135 : decode cX12_attempt 135 = .ok (.iload 4, 2) := by decide +kernel
theorem dX12_attempt_137 : decode cX12_attempt 137 = .ok (.aload_n 0, 1) := by decide +kernel
theorem dX12_attempt_138 : decode cX12_attempt 138 = .ok (.getfield 253, 3) := by decide +kernel
theorem dX12_attempt_141 : decode cX12_attempt 141 = .ok (.if_icmp .ge 137, 3) := by decide +kernel
theorem dX12_attempt_144 : decode cX12_attempt 144 = .ok (.aload_n 0, 1) := by decide +kernel
theorem dX12_attempt_145 : decode cX12_attempt 145 = .ok (.getfield 56, 3) := by decide +kernel
theorem dX12_attempt_148 : decode cX12_attempt 148 = .ok (.iload 4, 2) := by decide +kernel
theorem dX12_attempt_150 : decode cX12_attempt 150 = .ok (.iaload, 1) := by decide +kernel
theorem dX12_attempt_151 : decode cX12_attempt 151 = .ok (.iconst 2, 1) := by decide +kernel
theorem dX12_attempt_152 : decode cX12_attempt 152 = .ok (.if_icmp .ne 120, 3) := by decide +kernel
theorem dX12_attempt_155 : decode cX12_attempt 155 = .ok (.aload_n 0, 1) := by decide +kernel
theorem dX12_attempt_156 : decode cX12_attempt 156 = .ok (.getfield 74, 3) := by decide +kernel
theorem dX12_attempt_159 : decode cX12_attempt 159 = .ok (.iload 4, 2) := by decide +kernel
theorem dX12_attempt_161 : decode cX12_attempt 161 = .ok (.iaload, 1) := by decide +kernel
theorem dX12_attempt_162 : decode cX12_attempt 162 = .ok (.iload_n 1, 1) := by decide +kernel
theorem dX12_attempt_163 : decode cX12_attempt 163 = .ok (.if_icmp .ne 109, 3) := by decide +kernel
theorem dX12_attempt_166 : decode cX12_attempt 166 = .ok (.aload_n 0, 1) := by decide +kernel
theorem dX12_attempt_167 : decode cX12_attempt 167 = .ok (.iload 4, 2) := by decide +kernel
theorem dX12_attempt_169 : decode cX12_attempt 169 = .ok (.aload_n 0, 1) := by decide +kernel
theorem dX12_attempt_170 : decode cX12_attempt 170 = .ok (.getfield 250, 3) := by decide +kernel
theorem dX12_attempt_173 : decode cX12_attempt 173 = .ok (.invokevirtual 260, 3) := by decide +kernel
theorem dX12_attempt_176 : decode cX12_attempt 176 = .ok (.ifCond .ne 6, 3) := by decide +kernel
theorem dX12_attempt_179 : decode cX12_attempt 179 = .ok (.goto 93, 3) := by decide +kernel
theorem dX12_attempt_182 : decode cX12_attempt 182 = .ok (.aload_n 0, 1) := by decide +kernel
theorem dX12_attempt_183 : decode cX12_attempt 183 = .ok (.iconst 1, 1) := by decide +kernel
theorem dX12_attempt_184 : decode cX12_attempt 184 = .ok (.putfield 401, 3) := by decide +kernel
theorem dX12_attempt_187 : decode cX12_attempt 187 = .ok (.aload_n 0, 1) := by decide +kernel
theorem dX12_attempt_188 : decode cX12_attempt 188 = .ok (.iload 4, 2) := by decide +kernel
theorem dX12_attempt_190 : decode cX12_attempt 190 = .ok (.invokevirtual 477, 3) := by decide +kernel
theorem dX12_attempt_193 : decode cX12_attempt 193 = .ok (.iconst 0, 1) := by decide +kernel
theorem dX12_attempt_194 : decode cX12_attempt 194 = .ok (.istore 5, 2) := by decide +kernel
theorem dX12_attempt_196 : decode cX12_attempt 196 = .ok (.iload 5, 2) := by decide +kernel
theorem dX12_attempt_198 : decode cX12_attempt 198 = .ok (.bipush 30, 2) := by decide +kernel
theorem dX12_attempt_200 : decode cX12_attempt 200 = .ok (.if_icmp .ge 27, 3) := by decide +kernel
theorem dX12_attempt_203 : decode cX12_attempt 203 = .ok (.aload_n 0, 1) := by decide +kernel
theorem dX12_attempt_204 : decode cX12_attempt 204 = .ok (.getfield 205, 3) := by decide +kernel
theorem dX12_attempt_207 : decode cX12_attempt 207 = .ok (.iload 5, 2) := by decide +kernel
theorem dX12_attempt_209 : decode cX12_attempt 209 = .ok (.dup2, 1) := by decide +kernel
theorem dX12_attempt_210 : decode cX12_attempt 210 = .ok (.laload, 1) := by decide +kernel
theorem dX12_attempt_211 : decode cX12_attempt 211 = .ok (.aload_n 0, 1) := by decide +kernel
theorem dX12_attempt_212 : decode cX12_attempt 212 = .ok (.getfield 174, 3) := by decide +kernel
theorem dX12_attempt_215 : decode cX12_attempt 215 = .ok (.iload 5, 2) := by decide +kernel
theorem dX12_attempt_217 : decode cX12_attempt 217 = .ok (.iaload, 1) := by decide +kernel
theorem dX12_attempt_218 : decode cX12_attempt 218 = .ok (.i2l, 1) := by decide +kernel
theorem dX12_attempt_219 : decode cX12_attempt 219 = .ok (.ladd, 1) := by decide +kernel
theorem dX12_attempt_220 : decode cX12_attempt 220 = .ok (.lastore, 1) := by decide +kernel
theorem dX12_attempt_221 : decode cX12_attempt 221 = .ok (.iinc 5 1, 3) := by decide +kernel
theorem dX12_attempt_224 : decode cX12_attempt 224 = .ok (.goto (-28), 3) := by decide +kernel
theorem dX12_attempt_227 : decode cX12_attempt 227 = .ok (.aload_n 0, 1) := by decide +kernel
theorem dX12_attempt_228 : decode cX12_attempt 228 = .ok (.iconst 0, 1) := by decide +kernel
theorem dX12_attempt_229 : decode cX12_attempt 229 = .ok (.putfield 401, 3) := by decide +kernel
theorem dX12_attempt_232 : decode cX12_attempt 232 = .ok (.aload_n 0, 1) := by decide +kernel
theorem dX12_attempt_233 : decode cX12_attempt 233 = .ok (.iload 4, 2) := by decide +kernel
theorem dX12_attempt_235 : decode cX12_attempt 235 = .ok (.invokevirtual 477, 3) := by decide +kernel
theorem dX12_attempt_238 : decode cX12_attempt 238 = .ok (.iconst 0, 1) := by decide +kernel
theorem dX12_attempt_239 : decode cX12_attempt 239 = .ok (.istore 5, 2) := by decide +kernel
theorem dX12_attempt_241 : decode cX12_attempt 241 = .ok (.iload 5, 2) := by decide +kernel
theorem dX12_attempt_243 : decode cX12_attempt 243 = .ok (.bipush 30, 2) := by decide +kernel
theorem dX12_attempt_245 : decode cX12_attempt 245 = .ok (.if_icmp .ge 27, 3) := by decide +kernel
theorem dX12_attempt_248 : decode cX12_attempt 248 = .ok (.aload_n 0, 1) := by decide +kernel
theorem dX12_attempt_249 : decode cX12_attempt 249 = .ok (.getfield 205, 3) := by decide +kernel
theorem dX12_attempt_252 : decode cX12_attempt 252 = .ok (.iload 5, 2) := by decide +kernel
theorem dX12_attempt_254 : decode cX12_attempt 254 = .ok (.dup2, 1) := by decide +kernel
theorem dX12_attempt_255 : decode cX12_attempt 255 = .ok (.laload, 1) := by decide +kernel
theorem dX12_attempt_256 : decode cX12_attempt 256 = .ok (.aload_n 0, 1) := by decide +kernel
theorem dX12_attempt_257 : decode cX12_attempt 257 = .ok (.getfield 174, 3) := by decide +kernel
theorem dX12_attempt_260 : decode cX12_attempt 260 = .ok (.iload 5, 2) := by decide +kernel
theorem dX12_attempt_262 : decode cX12_attempt 262 = .ok (.iaload, 1) := by decide +kernel
theorem dX12_attempt_263 : decode cX12_attempt 263 = .ok (.i2l, 1) := by decide +kernel
theorem dX12_attempt_264 : decode cX12_attempt 264 = .ok (.lsub, 1) := by decide +kernel
theorem dX12_attempt_265 : decode cX12_attempt 265 = .ok (.lastore, 1) := by decide +kernel
theorem dX12_attempt_266 : decode cX12_attempt 266 = .ok (.iinc 5 1, 3) := by decide +kernel
theorem dX12_attempt_269 : decode cX12_attempt 269 = .ok (.goto (-28), 3) := by decide +kernel
theorem dX12_attempt_272 : decode cX12_attempt 272 = .ok (.iinc 4 1, 3) := by decide +kernel
theorem dX12_attempt_275 : decode cX12_attempt 275 = .ok (.goto (-140), 3) := by decide +kernel
theorem dX12_attempt_278 : decode cX12_attempt 278 = .ok (.iconst 0, 1) := by decide +kernel
theorem dX12_attempt_279 : decode cX12_attempt 279 = .ok (.ireturn, 1) := by decide +kernel
theorem dX12_more_0 : decode cX12_more 0 = .ok (.aload_n 0, 1) := by decide +kernel
theorem dX12_more_1 : decode cX12_more 1 = .ok (.iconst 0, 1) := by decide +kernel
theorem dX12_more_2 : decode cX12_more 2 = .ok (.putfield 208, 3) := by decide +kernel
theorem dX12_more_5 : decode cX12_more 5 = .ok (.aload_n 0, 1) := by decide +kernel
theorem dX12_more_6 : decode cX12_more 6 = .ok (.iload_n 1, 1) := by decide +kernel
theorem dX12_more_7 : decode cX12_more 7 = .ok (.invokevirtual 239, 3) := by decide +kernel
theorem dX12_more_10 : decode cX12_more 10 = .ok (.ifCond .eq 12, 3) := by decide +kernel
theorem dX12_more_13 : decode cX12_more 13 = .ok (.aload_n 0, 1) := by decide +kernel
theorem dX12_more_14 : decode cX12_more 14 = .ok (.getfield 205, 3) := by decide +kernel
theorem dX12_more_17 : decode cX12_more 17 = .ok (.iload_n 1, 1) := by decide +kernel
theorem dX12_more_18 : decode cX12_more 18 = .ok (.laload, 1) := by decide +kernel
theorem dX12_more_19 : decode cX12_more 19 = .ok (.goto 4, 3) := by decide +kernel
theorem dX12_more_22 : decode cX12_more 22 = .ok (.lconst 0, 1) := by decide +kernel
theorem dX12_more_23 : decode cX12_more 23 = .ok (.lreturn, 1) := by decide +kernel
theorem dX12_count_0 : decode cX12_count 0 = .ok (.aload_n 0, 1) := by decide +kernel
theorem dX12_count_1 : decode cX12_count 1 = .ok (.iconst 0, 1) := by decide +kernel
theorem dX12_count_2 : decode cX12_count 2 = .ok (.putfield 208, 3) := by decide +kernel
theorem dX12_count_5 : decode cX12_count 5 = .ok (.aload_n 0, 1) := by decide +kernel
theorem dX12_count_6 : decode cX12_count 6 = .ok (.iload_n 1, 1) := by decide +kernel
theorem dX12_count_7 : decode cX12_count 7 = .ok (.ifCond .lt 13, 3) := by decide +kernel
theorem dX12_count_10 : decode cX12_count 10 = .ok (.iload_n 1, 1) := by decide +kernel
theorem dX12_count_11 : decode cX12_count 11 = .ok (.bipush 8, 2) := by decide +kernel
theorem dX12_count_13 : decode cX12_count 13 = .ok (.if_icmp .gt 7, 3) := by decide +kernel
theorem dX12_count_16 : decode cX12_count 16 = .ok (.iconst 1, 1) := by decide +kernel
theorem dX12_count_17 : decode cX12_count 17 = .ok (.goto 4, 3) := by decide +kernel
theorem dX12_count_20 : decode cX12_count 20 = .ok (.iconst 0, 1) := by decide +kernel
theorem dX12_count_21 : decode cX12_count 21 = .ok (.iconst 1, 1) := by decide +kernel
theorem dX12_count_22 : decode cX12_count 22 = .ok (.invokevirtual 214, 3) := by decide +kernel
theorem dX12_count_25 : decode cX12_count 25 = .ok (.ifCond .ne 5, 3) := by decide +kernel
theorem dX12_count_28 : decode cX12_count 28 = .ok (.iconst 0, 1) := by decide +kernel
theorem dX12_count_29 : decode cX12_count 29 = .ok (.ireturn, 1) := by decide +kernel
theorem dX12_count_30 : decode cX12_count 30 = .ok (.iload_n 1, 1) := by decide +kernel
theorem dX12_count_31 : decode cX12_count 31 = .ok (.tableswitch 85 0 7 #[45, 50, 55, 60, 65, 70, 75, 80], 45) := by decide +kernel
theorem dX12_count_76 : decode cX12_count 76 = .ok (.aload_n 0, 1) := by decide +kernel
theorem dX12_count_77 : decode cX12_count 77 = .ok (.getfield 250, 3) := by decide +kernel
theorem dX12_count_80 : decode cX12_count 80 = .ok (.ireturn, 1) := by decide +kernel
theorem dX12_count_81 : decode cX12_count 81 = .ok (.aload_n 0, 1) := by decide +kernel
theorem dX12_count_82 : decode cX12_count 82 = .ok (.getfield 211, 3) := by decide +kernel
theorem dX12_count_85 : decode cX12_count 85 = .ok (.ireturn, 1) := by decide +kernel
theorem dX12_count_86 : decode cX12_count 86 = .ok (.aload_n 0, 1) := by decide +kernel
theorem dX12_count_87 : decode cX12_count 87 = .ok (.getfield 218, 3) := by decide +kernel
theorem dX12_count_90 : decode cX12_count 90 = .ok (.ireturn, 1) := by decide +kernel
theorem dX12_count_91 : decode cX12_count 91 = .ok (.aload_n 0, 1) := by decide +kernel
theorem dX12_count_92 : decode cX12_count 92 = .ok (.getfield 221, 3) := by decide +kernel
theorem dX12_count_95 : decode cX12_count 95 = .ok (.ireturn, 1) := by decide +kernel
theorem dX12_count_96 : decode cX12_count 96 = .ok (.aload_n 0, 1) := by decide +kernel
theorem dX12_count_97 : decode cX12_count 97 = .ok (.getfield 224, 3) := by decide +kernel
theorem dX12_count_100 : decode cX12_count 100 = .ok (.ireturn, 1) := by decide +kernel
theorem dX12_count_101 : decode cX12_count 101 = .ok (.aload_n 0, 1) := by decide +kernel
theorem dX12_count_102 : decode cX12_count 102 = .ok (.getfield 253, 3) := by decide +kernel
theorem dX12_count_105 : decode cX12_count 105 = .ok (.ireturn, 1) := by decide +kernel
theorem dX12_count_106 : decode cX12_count 106 = .ok (.aload_n 0, 1) := by decide +kernel
theorem dX12_count_107 : decode cX12_count 107 = .ok (.getfield 267, 3) := by decide +kernel
theorem dX12_count_110 : decode cX12_count 110 = .ok (.ireturn, 1) := by decide +kernel
theorem dX12_count_111 : decode cX12_count 111 = .ok (.aload_n 0, 1) := by decide +kernel
theorem dX12_count_112 : decode cX12_count 112 = .ok (.getfield 273, 3) := by decide +kernel
theorem dX12_count_115 : decode cX12_count 115 = .ok (.ireturn, 1) := by decide +kernel
theorem dX12_count_116 : decode cX12_count 116 = .ok (.aload_n 0, 1) := by decide +kernel
theorem dX12_count_117 : decode cX12_count 117 = .ok (.getfield 276, 3) := by decide +kernel
theorem dX12_count_120 : decode cX12_count 120 = .ok (.ireturn, 1) := by decide +kernel
theorem dJ11_isValidCodePoint_9a6ad_0 : decode cJ11_isValidCodePoint_9a6ad 0 = .ok (.iload_n 0, 1) := by decide +kernel
theorem dJ11_isValidCodePoint_9a6ad_1 : decode cJ11_isValidCodePoint_9a6ad 1 = .ok (.bipush 16, 2) := by decide +kernel
theorem dJ11_isValidCodePoint_9a6ad_3 : decode cJ11_isValidCodePoint_9a6ad 3 = .ok (.iushr, 1) := by decide +kernel
theorem dJ11_isValidCodePoint_9a6ad_4 : decode cJ11_isValidCodePoint_9a6ad 4 = .ok (.istore_n 1, 1) := by decide +kernel
theorem dJ11_isValidCodePoint_9a6ad_5 : decode cJ11_isValidCodePoint_9a6ad 5 = .ok (.iload_n 1, 1) := by decide +kernel
theorem dJ11_isValidCodePoint_9a6ad_6 : decode cJ11_isValidCodePoint_9a6ad 6 = .ok (.bipush 17, 2) := by decide +kernel
theorem dJ11_isValidCodePoint_9a6ad_8 : decode cJ11_isValidCodePoint_9a6ad 8 = .ok (.if_icmp .ge 7, 3) := by decide +kernel
theorem dJ11_isValidCodePoint_9a6ad_11 : decode cJ11_isValidCodePoint_9a6ad 11 = .ok (.iconst 1, 1) := by decide +kernel
theorem dJ11_isValidCodePoint_9a6ad_12 : decode cJ11_isValidCodePoint_9a6ad 12 = .ok (.goto 4, 3) := by decide +kernel
theorem dJ11_isValidCodePoint_9a6ad_15 : decode cJ11_isValidCodePoint_9a6ad 15 = .ok (.iconst 0, 1) := by decide +kernel
theorem dJ11_isValidCodePoint_9a6ad_16 : decode cJ11_isValidCodePoint_9a6ad 16 = .ok (.ireturn, 1) := by decide +kernel
theorem dJ11_highSurrogate_5068e_0 : decode cJ11_highSurrogate_5068e 0 = .ok (.iload_n 0, 1) := by decide +kernel
theorem dJ11_highSurrogate_5068e_1 : decode cJ11_highSurrogate_5068e 1 = .ok (.bipush 10, 2) := by decide +kernel
theorem dJ11_highSurrogate_5068e_3 : decode cJ11_highSurrogate_5068e 3 = .ok (.iushr, 1) := by decide +kernel
theorem dJ11_highSurrogate_5068e_4 : decode cJ11_highSurrogate_5068e 4 = .ok (.ldc 110, 2) := by decide +kernel
theorem dJ11_highSurrogate_5068e_6 : decode cJ11_highSurrogate_5068e 6 = .ok (.iadd, 1) := by decide +kernel
theorem dJ11_highSurrogate_5068e_7 : decode cJ11_highSurrogate_5068e 7 = .ok (.i2c, 1) := by decide +kernel
theorem dJ11_highSurrogate_5068e_8 : decode cJ11_highSurrogate_5068e 8 = .ok (.ireturn, 1) := by decide +kernel
theorem dJ11_lowSurrogate_5068e_0 : decode cJ11_lowSurrogate_5068e 0 = .ok (.iload_n 0, 1) := by decide +kernel
theorem dJ11_lowSurrogate_5068e_1 : decode cJ11_lowSurrogate_5068e 1 = .ok (.sipush 1023, 3) := by decide +kernel
theorem dJ11_lowSurrogate_5068e_4 : decode cJ11_lowSurrogate_5068e 4 = .ok (.iand, 1) := by decide +kernel
theorem dJ11_lowSurrogate_5068e_5 : decode cJ11_lowSurrogate_5068e 5 = .ok (.ldc 76, 2) := by decide +kernel
theorem dJ11_lowSurrogate_5068e_7 : decode cJ11_lowSurrogate_5068e 7 = .ok (.iadd, 1) := by decide +kernel
theorem dJ11_lowSurrogate_5068e_8 : decode cJ11_lowSurrogate_5068e 8 = .ok (.i2c, 1) := by decide +kernel
theorem dJ11_lowSurrogate_5068e_9 : decode cJ11_lowSurrogate_5068e 9 = .ok (.ireturn, 1) := by decide +kernel
theorem dJ9_abs_067f4_0 : decode cJ9_abs_067f4 0 = .ok (.lload_n 0, 1) := by decide +kernel
theorem dJ9_abs_067f4_1 : decode cJ9_abs_067f4 1 = .ok (.lconst 0, 1) := by decide +kernel
theorem dJ9_abs_067f4_2 : decode cJ9_abs_067f4 2 = .ok (.lcmp, 1) := by decide +kernel
theorem dJ9_abs_067f4_3 : decode cJ9_abs_067f4 3 = .ok (.ifCond .ge 8, 3) := by decide +kernel
theorem dJ9_abs_067f4_6 : decode cJ9_abs_067f4 6 = .ok (.lload_n 0, 1) := by decide +kernel
theorem dJ9_abs_067f4_7 : decode cJ9_abs_067f4 7 = .ok (.lneg, 1) := by decide +kernel
theorem dJ9_abs_067f4_8 : decode cJ9_abs_067f4 8 = .ok (.goto 4, 3) := by decide +kernel
theorem dJ9_abs_067f4_11 : decode cJ9_abs_067f4 11 = .ok (.lload_n 0, 1) := by decide +kernel
theorem dJ9_abs_067f4_12 : decode cJ9_abs_067f4 12 = .ok (.lreturn, 1) := by decide +kernel
theorem dJ9_max_7cf53_0 : decode cJ9_max_7cf53 0 = .ok (.iload_n 0, 1) := by decide +kernel
theorem dJ9_max_7cf53_1 : decode cJ9_max_7cf53 1 = .ok (.iload_n 1, 1) := by decide +kernel
theorem dJ9_max_7cf53_2 : decode cJ9_max_7cf53 2 = .ok (.if_icmp .lt 7, 3) := by decide +kernel
theorem dJ9_max_7cf53_5 : decode cJ9_max_7cf53 5 = .ok (.iload_n 0, 1) := by decide +kernel
theorem dJ9_max_7cf53_6 : decode cJ9_max_7cf53 6 = .ok (.goto 4, 3) := by decide +kernel
theorem dJ9_max_7cf53_9 : decode cJ9_max_7cf53 9 = .ok (.iload_n 1, 1) := by decide +kernel
theorem dJ9_max_7cf53_10 : decode cJ9_max_7cf53 10 = .ok (.ireturn, 1) := by decide +kernel
theorem dJ9_min_7cf53_0 : decode cJ9_min_7cf53 0 = .ok (.iload_n 0, 1) := by decide +kernel
theorem dJ9_min_7cf53_1 : decode cJ9_min_7cf53 1 = .ok (.iload_n 1, 1) := by decide +kernel
theorem dJ9_min_7cf53_2 : decode cJ9_min_7cf53 2 = .ok (.if_icmp .gt 7, 3) := by decide +kernel
theorem dJ9_min_7cf53_5 : decode cJ9_min_7cf53 5 = .ok (.iload_n 0, 1) := by decide +kernel
theorem dJ9_min_7cf53_6 : decode cJ9_min_7cf53 6 = .ok (.goto 4, 3) := by decide +kernel
theorem dJ9_min_7cf53_9 : decode cJ9_min_7cf53 9 = .ok (.iload_n 1, 1) := by decide +kernel
theorem dJ9_min_7cf53_10 : decode cJ9_min_7cf53 10 = .ok (.ireturn, 1) := by decide +kernel
theorem dJ9_min_f86c9_0 : decode cJ9_min_f86c9 0 = .ok (.lload_n 0, 1) := by decide +kernel
theorem dJ9_min_f86c9_1 : decode cJ9_min_f86c9 1 = .ok (.lload_n 2, 1) := by decide +kernel
theorem dJ9_min_f86c9_2 : decode cJ9_min_f86c9 2 = .ok (.lcmp, 1) := by decide +kernel
theorem dJ9_min_f86c9_3 : decode cJ9_min_f86c9 3 = .ok (.ifCond .gt 7, 3) := by decide +kernel
theorem dJ9_min_f86c9_6 : decode cJ9_min_f86c9 6 = .ok (.lload_n 0, 1) := by decide +kernel
theorem dJ9_min_f86c9_7 : decode cJ9_min_f86c9 7 = .ok (.goto 4, 3) := by decide +kernel
theorem dJ9_min_f86c9_10 : decode cJ9_min_f86c9 10 = .ok (.lload_n 2, 1) := by decide +kernel
theorem dJ9_min_f86c9_11 : decode cJ9_min_f86c9 11 = .ok (.lreturn, 1) := by decide +kernel
theorem dJ0_length_8abf5_0 : decode cJ0_length_8abf5 0 = .ok (.aload_n 0, 1) := by decide +kernel
theorem dJ0_length_8abf5_1 : decode cJ0_length_8abf5 1 = .ok (.getfield 9, 3) := by decide +kernel
theorem dJ0_length_8abf5_4 : decode cJ0_length_8abf5 4 = .ok (.arraylength, 1) := by decide +kernel
theorem dJ0_length_8abf5_5 : decode cJ0_length_8abf5 5 = .ok (.aload_n 0, 1) := by decide +kernel
theorem dJ0_length_8abf5_6 : decode cJ0_length_8abf5 6 = .ok (.invokevirtual 335, 3) := by decide +kernel
theorem dJ0_length_8abf5_9 : decode cJ0_length_8abf5 9 = .ok (.ishr, 1) := by decide +kernel
theorem dJ0_length_8abf5_10 : decode cJ0_length_8abf5 10 = .ok (.ireturn, 1) := by decide +kernel
theorem dJ0_charAt_5068e_0 : decode cJ0_charAt_5068e 0 = .ok (.aload_n 0, 1) := by decide +kernel
theorem dJ0_charAt_5068e_1 : decode cJ0_charAt_5068e 1 = .ok (.invokevirtual 492, 3) := by decide +kernel
theorem dJ0_charAt_5068e_4 : decode cJ0_charAt_5068e 4 = .ok (.ifCond .eq 12, 3) := by decide +kernel
theorem dJ0_charAt_5068e_7 : decode cJ0_charAt_5068e 7 = .ok (.aload_n 0, 1) := by decide +kernel
theorem dJ0_charAt_5068e_8 : decode cJ0_charAt_5068e 8 = .ok (.getfield 9, 3) := by decide +kernel
theorem dJ0_charAt_5068e_11 : decode cJ0_charAt_5068e 11 = .ok (.iload_n 1, 1) := by decide +kernel
theorem dJ0_charAt_5068e_12 : decode cJ0_charAt_5068e 12 = .ok (.invokestatic 495, 3) := by decide +kernel
theorem dJ0_charAt_5068e_15 : decode cJ0_charAt_5068e 15 = .ok (.ireturn, 1) := by decide +kernel
theorem dJ0_charAt_5068e_16 : decode cJ0_charAt_5068e 16 = .ok (.aload_n 0, 1) := by decide +kernel
theorem dJ0_charAt_5068e_17 : decode cJ0_charAt_5068e 17 = .ok (.getfield 9, 3) := by decide +kernel
theorem dJ0_charAt_5068e_20 : decode cJ0_charAt_5068e 20 = .ok (.iload_n 1, 1) := by decide +kernel
theorem dJ0_charAt_5068e_21 : decode cJ0_charAt_5068e 21 = .ok (.invokestatic 498, 3) := by decide +kernel
theorem dJ0_charAt_5068e_24 : decode cJ0_charAt_5068e 24 = .ok (.ireturn, 1) := by decide +kernel
theorem dJ0_indexOf_0f7a4_0 : decode cJ0_indexOf_0f7a4 0 = .ok (.aload_n 0, 1) := by decide +kernel
theorem dJ0_indexOf_0f7a4_1 : decode cJ0_indexOf_0f7a4 1 = .ok (.iload_n 1, 1) := by decide +kernel
theorem dJ0_indexOf_0f7a4_2 : decode cJ0_indexOf_0f7a4 2 = .ok (.iconst 0, 1) := by decide +kernel
theorem dJ0_indexOf_0f7a4_3 : decode cJ0_indexOf_0f7a4 3 = .ok (.invokevirtual 633, 3) := by decide +kernel
theorem dJ0_indexOf_0f7a4_6 : decode cJ0_indexOf_0f7a4 6 = .ok (.ireturn, 1) := by decide +kernel
theorem dJ0_indexOf_7cf53_0 : decode cJ0_indexOf_7cf53 0 = .ok (.aload_n 0, 1) := by decide +kernel
theorem dJ0_indexOf_7cf53_1 : decode cJ0_indexOf_7cf53 1 = .ok (.invokevirtual 492, 3) := by decide +kernel
theorem dJ0_indexOf_7cf53_4 : decode cJ0_indexOf_7cf53 4 = .ok (.ifCond .eq 19, 3) := by decide +kernel
theorem dJ0_indexOf_7cf53_7 : decode cJ0_indexOf_7cf53 7 = .ok (.aload_n 0, 1) := by decide +kernel
theorem dJ0_indexOf_7cf53_8 : decode cJ0_indexOf_7cf53 8 = .ok (.getfield 9, 3) := by decide +kernel
theorem dJ0_indexOf_7cf53_11 : decode cJ0_indexOf_7cf53 11 = .ok (.iload_n 1, 1) := by decide +kernel
theorem dJ0_indexOf_7cf53_12 : decode cJ0_indexOf_7cf53 12 = .ok (.iload_n 2, 1) := by decide +kernel
theorem dJ0_indexOf_7cf53_13 : decode cJ0_indexOf_7cf53 13 = .ok (.aload_n 0, 1) := by decide +kernel
theorem dJ0_indexOf_7cf53_14 : decode cJ0_indexOf_7cf53 14 = .ok (.invokevirtual 505, 3) := by decide +kernel
theorem dJ0_indexOf_7cf53_17 : decode cJ0_indexOf_7cf53 17 = .ok (.invokestatic 637, 3) := by decide +kernel
theorem dJ0_indexOf_7cf53_20 : decode cJ0_indexOf_7cf53 20 = .ok (.goto 16, 3) := by decide +kernel
theorem dJ0_indexOf_7cf53_23 : decode cJ0_indexOf_7cf53 23 = .ok (.aload_n 0, 1) := by decide +kernel
theorem dJ0_indexOf_7cf53_24 : decode cJ0_indexOf_7cf53 24 = .ok (.getfield 9, 3) := by decide +kernel
theorem dJ0_indexOf_7cf53_27 : decode cJ0_indexOf_7cf53 27 = .ok (.iload_n 1, 1) := by decide +kernel
theorem dJ0_indexOf_7cf53_28 : decode cJ0_indexOf_7cf53 28 = .ok (.iload_n 2, 1) := by decide +kernel
theorem dJ0_indexOf_7cf53_29 : decode cJ0_indexOf_7cf53 29 = .ok (.aload_n 0, 1) := by decide +kernel
theorem dJ0_indexOf_7cf53_30 : decode cJ0_indexOf_7cf53 30 = .ok (.invokevirtual 505, 3) := by decide +kernel
theorem dJ0_indexOf_7cf53_33 : decode cJ0_indexOf_7cf53 33 = .ok (.invokestatic 640, 3) := by decide +kernel
theorem dJ0_indexOf_7cf53_36 : decode cJ0_indexOf_7cf53 36 = .ok (.ireturn, 1) := by decide +kernel
theorem dJ0_coder_7d493_0 : decode cJ0_coder_7d493 0 = .ok (.getstatic 38, 3) := by decide +kernel
theorem dJ0_coder_7d493_3 : decode cJ0_coder_7d493 3 = .ok (.ifCond .eq 10, 3) := by decide +kernel
theorem dJ0_coder_7d493_6 : decode cJ0_coder_7d493 6 = .ok (.aload_n 0, 1) := by decide +kernel
theorem dJ0_coder_7d493_7 : decode cJ0_coder_7d493 7 = .ok (.getfield 15, 3) := by decide +kernel
theorem dJ0_coder_7d493_10 : decode cJ0_coder_7d493 10 = .ok (.goto 4, 3) := by decide +kernel
theorem dJ0_coder_7d493_13 : decode cJ0_coder_7d493 13 = .ok (.iconst 1, 1) := by decide +kernel
theorem dJ0_coder_7d493_14 : decode cJ0_coder_7d493 14 = .ok (.ireturn, 1) := by decide +kernel
theorem dJ0_isLatin1_aae02_0 : decode cJ0_isLatin1_aae02 0 = .ok (.getstatic 38, 3) := by decide +kernel
theorem dJ0_isLatin1_aae02_3 : decode cJ0_isLatin1_aae02 3 = .ok (.ifCond .eq 14, 3) := by decide +kernel
theorem dJ0_isLatin1_aae02_6 : decode cJ0_isLatin1_aae02 6 = .ok (.aload_n 0, 1) := by decide +kernel
theorem dJ0_isLatin1_aae02_7 : decode cJ0_isLatin1_aae02 7 = .ok (.getfield 15, 3) := by decide +kernel
theorem dJ0_isLatin1_aae02_10 : decode cJ0_isLatin1_aae02 10 = .ok (.ifCond .ne 7, 3) := by decide +kernel
theorem dJ0_isLatin1_aae02_13 : decode cJ0_isLatin1_aae02 13 = .ok (.iconst 1, 1) := by decide +kernel
theorem dJ0_isLatin1_aae02_14 : decode cJ0_isLatin1_aae02 14 = .ok (.goto 4, 3) := by decide +kernel
theorem dJ0_isLatin1_aae02_17 : decode cJ0_isLatin1_aae02 17 = .ok (.iconst 0, 1) := by decide +kernel
theorem dJ0_isLatin1_aae02_18 : decode cJ0_isLatin1_aae02 18 = .ok (.ireturn, 1) := by decide +kernel
theorem dJ0_checkIndex_df160_0 : decode cJ0_checkIndex_df160 0 = .ok (.iload_n 0, 1) := by decide +kernel
theorem dJ0_checkIndex_df160_1 : decode cJ0_checkIndex_df160 1 = .ok (.iload_n 1, 1) := by decide +kernel
theorem dJ0_checkIndex_df160_2 : decode cJ0_checkIndex_df160 2 = .ok (.getstatic 1053, 3) := by decide +kernel
theorem dJ0_checkIndex_df160_5 : decode cJ0_checkIndex_df160 5 = .ok (.invokestatic 1059, 3) := by decide +kernel
theorem dJ0_checkIndex_df160_8 : decode cJ0_checkIndex_df160 8 = .ok (.pop, 1) := by decide +kernel
theorem dJ0_checkIndex_df160_9 : decode cJ0_checkIndex_df160 9 = .ok (.return_, 1) := by decide +kernel
theorem dJ0_checkBoundsBeginEnd_23922_0 : decode cJ0_checkBoundsBeginEnd_23922 0 = .ok (.iload_n 0, 1) := by decide +kernel
theorem dJ0_checkBoundsBeginEnd_23922_1 : decode cJ0_checkBoundsBeginEnd_23922 1 = .ok (.iload_n 1, 1) := by decide +kernel
theorem dJ0_checkBoundsBeginEnd_23922_2 : decode cJ0_checkBoundsBeginEnd_23922 2 = .ok (.iload_n 2, 1) := by decide +kernel
theorem dJ0_checkBoundsBeginEnd_23922_3 : decode cJ0_checkBoundsBeginEnd_23922 3 = .ok (.getstatic 1053, 3) := by decide +kernel
theorem dJ0_checkBoundsBeginEnd_23922_6 : decode cJ0_checkBoundsBeginEnd_23922 6 = .ok (.invokestatic 1062, 3) := by decide +kernel
theorem dJ0_checkBoundsBeginEnd_23922_9 : decode cJ0_checkBoundsBeginEnd_23922 9 = .ok (.pop, 1) := by decide +kernel
theorem dJ0_checkBoundsBeginEnd_23922_10 : decode cJ0_checkBoundsBeginEnd_23922 10 = .ok (.return_, 1) := by decide +kernel
theorem dJ1_charAt_3b067_0 : decode cJ1_charAt_3b067 0 = .ok (.iload_n 1, 1) := by decide +kernel
theorem dJ1_charAt_3b067_1 : decode cJ1_charAt_3b067 1 = .ok (.aload_n 0, 1) := by decide +kernel
theorem dJ1_charAt_3b067_2 : decode cJ1_charAt_3b067 2 = .ok (.arraylength, 1) := by decide +kernel
theorem dJ1_charAt_3b067_3 : decode cJ1_charAt_3b067 3 = .ok (.invokestatic 9, 3) := by decide +kernel
theorem dJ1_charAt_3b067_6 : decode cJ1_charAt_3b067 6 = .ok (.aload_n 0, 1) := by decide +kernel
theorem dJ1_charAt_3b067_7 : decode cJ1_charAt_3b067 7 = .ok (.iload_n 1, 1) := by decide +kernel
theorem dJ1_charAt_3b067_8 : decode cJ1_charAt_3b067 8 = .ok (.baload, 1) := by decide +kernel
theorem dJ1_charAt_3b067_9 : decode cJ1_charAt_3b067 9 = .ok (.sipush 255, 3) := by decide +kernel
theorem dJ1_charAt_3b067_12 : decode cJ1_charAt_3b067 12 = .ok (.iand, 1) := by decide +kernel
theorem dJ1_charAt_3b067_13 : decode cJ1_charAt_3b067 13 = .ok (.i2c, 1) := by decide +kernel
theorem dJ1_charAt_3b067_14 : decode cJ1_charAt_3b067 14 = .ok (.ireturn, 1) := by decide +kernel
theorem dJ1_canEncode_9a6ad_0 : decode cJ1_canEncode_9a6ad 0 = .ok (.iload_n 0, 1) := by decide +kernel
theorem dJ1_canEncode_9a6ad_1 : decode cJ1_canEncode_9a6ad 1 = .ok (.ifCond .lt 14, 3) := by decide +kernel
theorem dJ1_canEncode_9a6ad_4 : decode cJ1_canEncode_9a6ad 4 = .ok (.iload_n 0, 1) := by decide +kernel
theorem dJ1_canEncode_9a6ad_5 : decode cJ1_canEncode_9a6ad 5 = .ok (.sipush 255, 3) := by decide +kernel
theorem dJ1_canEncode_9a6ad_8 : decode cJ1_canEncode_9a6ad 8 = .ok (.if_icmp .gt 7, 3) := by decide +kernel
theorem dJ1_canEncode_9a6ad_11 : decode cJ1_canEncode_9a6ad 11 = .ok (.iconst 1, 1) := by decide +kernel
theorem dJ1_canEncode_9a6ad_12 : decode cJ1_canEncode_9a6ad 12 = .ok (.goto 4, 3) := by decide +kernel
theorem dJ1_canEncode_9a6ad_15 : decode cJ1_canEncode_9a6ad 15 = .ok (.iconst 0, 1) := by decide +kernel
theorem dJ1_canEncode_9a6ad_16 : decode cJ1_canEncode_9a6ad 16 = .ok (.ireturn, 1) := by decide +kernel
theorem dJ1_indexOf_4cfef_0 : decode cJ1_indexOf_4cfef 0 = .ok (.iload_n 1, 1) := by decide +kernel
theorem dJ1_indexOf_4cfef_1 : decode cJ1_indexOf_4cfef 1 = .ok (.invokestatic 88, 3) := by decide +kernel
theorem dJ1_indexOf_4cfef_4 : decode cJ1_indexOf_4cfef 4 = .ok (.ifCond .ne 5, 3) := by decide +kernel
theorem dJ1_indexOf_4cfef_7 : decode cJ1_indexOf_4cfef 7 = .ok (.iconst (-1), 1) := by decide +kernel
theorem dJ1_indexOf_4cfef_8 : decode cJ1_indexOf_4cfef 8 = .ok (.ireturn, 1) := by decide +kernel
theorem dJ1_indexOf_4cfef_9 : decode cJ1_indexOf_4cfef 9 = .ok (.iload_n 2, 1) := by decide +kernel
theorem dJ1_indexOf_4cfef_10 : decode cJ1_indexOf_4cfef 10 = .ok (.iconst 0, 1) := by decide +kernel
theorem dJ1_indexOf_4cfef_11 : decode cJ1_indexOf_4cfef 11 = .ok (.invokestatic 92, 3) := by decide +kernel
theorem dJ1_indexOf_4cfef_14 : decode cJ1_indexOf_4cfef 14 = .ok (.istore_n 2, 1) := by decide +kernel
theorem dJ1_indexOf_4cfef_15 : decode cJ1_indexOf_4cfef 15 = .ok (.iload_n 3, 1) := by decide +kernel
theorem dJ1_indexOf_4cfef_16 : decode cJ1_indexOf_4cfef 16 = .ok (.aload_n 0, 1) := by decide +kernel
theorem dJ1_indexOf_4cfef_17 : decode cJ1_indexOf_4cfef 17 = .ok (.arraylength, 1) := by decide +kernel
theorem dJ1_indexOf_4cfef_18 : decode cJ1_indexOf_4cfef 18 = .ok (.invokestatic 38, 3) := by decide +kernel
theorem dJ1_indexOf_4cfef_21 : decode cJ1_indexOf_4cfef 21 = .ok (.istore_n 3, 1) := by decide +kernel
theorem dJ1_indexOf_4cfef_22 : decode cJ1_indexOf_4cfef 22 = .ok (.iload_n 2, 1) := by decide +kernel
theorem dJ1_indexOf_4cfef_23 : decode cJ1_indexOf_4cfef 23 = .ok (.iload_n 3, 1) := by decide +kernel
theorem dJ1_indexOf_4cfef_24 : decode cJ1_indexOf_4cfef 24 = .ok (.if_icmp .lt 5, 3) := by decide +kernel
theorem dJ1_indexOf_4cfef_27 : decode cJ1_indexOf_4cfef 27 = .ok (.iconst (-1), 1) := by decide +kernel
theorem dJ1_indexOf_4cfef_28 : decode cJ1_indexOf_4cfef 28 = .ok (.ireturn, 1) := by decide +kernel
theorem dJ1_indexOf_4cfef_29 : decode cJ1_indexOf_4cfef 29 = .ok (.aload_n 0, 1) := by decide +kernel
theorem dJ1_indexOf_4cfef_30 : decode cJ1_indexOf_4cfef 30 = .ok (.iload_n 1, 1) := by decide +kernel
theorem dJ1_indexOf_4cfef_31 : decode cJ1_indexOf_4cfef 31 = .ok (.iload_n 2, 1) := by decide +kernel
theorem dJ1_indexOf_4cfef_32 : decode cJ1_indexOf_4cfef 32 = .ok (.iload_n 3, 1) := by decide +kernel
theorem dJ1_indexOf_4cfef_33 : decode cJ1_indexOf_4cfef 33 = .ok (.invokestatic 95, 3) := by decide +kernel
theorem dJ1_indexOf_4cfef_36 : decode cJ1_indexOf_4cfef 36 = .ok (.ireturn, 1) := by decide +kernel
theorem dJ1_indexOfChar_4cfef_0 : decode cJ1_indexOfChar_4cfef 0 = .ok (.iload_n 1, 1) := by decide +kernel
theorem dJ1_indexOfChar_4cfef_1 : decode cJ1_indexOfChar_4cfef 1 = .ok (.i2b, 1) := by decide +kernel
theorem dJ1_indexOfChar_4cfef_2 : decode cJ1_indexOfChar_4cfef 2 = .ok (.istore 4, 2) := by decide +kernel
theorem dJ1_indexOfChar_4cfef_4 : decode cJ1_indexOfChar_4cfef 4 = .ok (.iload_n 2, 1) := by decide +kernel
theorem dJ1_indexOfChar_4cfef_5 : decode cJ1_indexOfChar_4cfef 5 = .ok (.istore 5, 2) := by decide +kernel
theorem dJ1_indexOfChar_4cfef_7 : decode cJ1_indexOfChar_4cfef 7 = .ok (.iload 5, 2) := by decide +kernel
theorem dJ1_indexOfChar_4cfef_9 : decode cJ1_indexOfChar_4cfef 9 = .ok (.iload_n 3, 1) := by decide +kernel
theorem dJ1_indexOfChar_4cfef_10 : decode cJ1_indexOfChar_4cfef 10 = .ok (.if_icmp .ge 21, 3) := by decide +kernel
theorem dJ1_indexOfChar_4cfef_13 : decode cJ1_indexOfChar_4cfef 13 = .ok (.aload_n 0, 1) := by decide +kernel
theorem dJ1_indexOfChar_4cfef_14 : decode cJ1_indexOfChar_4cfef 14 = .ok (.iload 5, 2) := by decide +kernel
theorem dJ1_indexOfChar_4cfef_16 : decode cJ1_indexOfChar_4cfef 16 = .ok (.baload, 1) := by decide +kernel
theorem dJ1_indexOfChar_4cfef_17 : decode cJ1_indexOfChar_4cfef 17 = .ok (.iload 4, 2) := by decide +kernel
theorem dJ1_indexOfChar_4cfef_19 : decode cJ1_indexOfChar_4cfef 19 = .ok (.if_icmp .ne 6, 3) := by decide +kernel
theorem dJ1_indexOfChar_4cfef_22 : decode cJ1_indexOfChar_4cfef 22 = .ok (.iload 5, 2) := by decide +kernel
theorem dJ1_indexOfChar_4cfef_24 : decode cJ1_indexOfChar_4cfef 24 = .ok (.ireturn, 1) := by decide +kernel
theorem dJ1_indexOfChar_4cfef_25 : decode cJ1_indexOfChar_4cfef 25 = .ok (.iinc 5 1, 3) := by decide +kernel
theorem dJ1_indexOfChar_4cfef_28 : decode cJ1_indexOfChar_4cfef 28 = .ok (.goto (-21), 3) := by decide +kernel
theorem dJ1_indexOfChar_4cfef_31 : decode cJ1_indexOfChar_4cfef 31 = .ok (.iconst (-1), 1) := by decide +kernel
theorem dJ1_indexOfChar_4cfef_32 : decode cJ1_indexOfChar_4cfef 32 = .ok (.ireturn, 1) := by decide +kernel
theorem dJ2_getChar_3b067_0 : decode cJ2_getChar_3b067 0 = .ok (.getstatic 44, 3) := by decide +kernel
theorem dJ2_getChar_3b067_3 : decode cJ2_getChar_3b067 3 = .ok (.ifCond .ne 25, 3) := by decide +kernel
theorem dJ2_getChar_3b067_6 : decode cJ2_getChar_3b067 6 = .ok (.iload_n 1, 1) := by decide +kernel
theorem dJ2_getChar_3b067_7 : decode cJ2_getChar_3b067 7 = .ok (.ifCond .lt 11, 3) := by decide +kernel
theorem dJ2_getChar_3b067_10 : decode cJ2_getChar_3b067 10 = .ok (.iload_n 1, 1) := by decide +kernel
theorem dJ2_getChar_3b067_11 : decode cJ2_getChar_3b067 11 = .ok (.aload_n 0, 1) := by decide +kernel
theorem dJ2_getChar_3b067_12 : decode cJ2_getChar_3b067 12 = .ok (.invokestatic 48, 3) := by decide +kernel
theorem dJ2_getChar_3b067_15 : decode cJ2_getChar_3b067 15 = .ok (.if_icmp .lt 13, 3) := by decide +kernel
theorem dJ2_getChar_3b067_18 : decode cJ2_getChar_3b067 18 = .ok (.new 52, 3) := by decide +kernel
theorem dJ2_getChar_3b067_21 : decode cJ2_getChar_3b067 21 = .ok (.dup, 1) := by decide +kernel
theorem dJ2_getChar_3b067_22 : decode cJ2_getChar_3b067 22 = .ok (.ldc 54, 2) := by decide +kernel
theorem dJ2_getChar_3b067_24 : decode cJ2_getChar_3b067 24 = .ok (.invokespecial 56, 3) := by decide +kernel
theorem dJ2_getChar_3b067_27 : decode cJ2_getChar_3b067 27 = .ok (.athrow, 1) := by decide +kernel
theorem dJ2_getChar_3b067_28 : decode cJ2_getChar_3b067 28 = .ok (.iload_n 1, 1) := by decide +kernel
theorem dJ2_getChar_3b067_29 : decode cJ2_getChar_3b067 29 = .ok (.iconst 1, 1) := by decide +kernel
theorem dJ2_getChar_3b067_30 : decode cJ2_getChar_3b067 30 = .ok (.ishl, 1) := by decide +kernel
theorem dJ2_getChar_3b067_31 : decode cJ2_getChar_3b067 31 = .ok (.istore_n 1, 1) := by decide +kernel
theorem dJ2_getChar_3b067_32 : decode cJ2_getChar_3b067 32 = .ok (.aload_n 0, 1) := by decide +kernel
theorem dJ2_getChar_3b067_33 : decode cJ2_getChar_3b067 33 = .ok (.iload_n 1, 1) := by decide +kernel
theorem dJ2_getChar_3b067_34 : decode cJ2_getChar_3b067 34 = .ok (.iinc 1 1, 3) := by decide +kernel
theorem dJ2_getChar_3b067_37 : decode cJ2_getChar_3b067 37 = .ok (.baload, 1) := by decide +kernel
theorem dJ2_getChar_3b067_38 : decode cJ2_getChar_3b067 38 = .ok (.sipush 255, 3) := by decide +kernel
theorem dJ2_getChar_3b067_41 : decode cJ2_getChar_3b067 41 = .ok (.iand, 1) := by decide +kernel
theorem dJ2_getChar_3b067_42 : decode cJ2_getChar_3b067 42 = .ok (.getstatic 59, 3) := by decide +kernel
theorem dJ2_getChar_3b067_45 : decode cJ2_getChar_3b067 45 = .ok (.ishl, 1) := by decide +kernel
theorem dJ2_getChar_3b067_46 : decode cJ2_getChar_3b067 46 = .ok (.aload_n 0, 1) := by decide +kernel
theorem dJ2_getChar_3b067_47 : decode cJ2_getChar_3b067 47 = .ok (.iload_n 1, 1) := by decide +kernel
theorem dJ2_getChar_3b067_48 : decode cJ2_getChar_3b067 48 = .ok (.baload, 1) := by decide +kernel
theorem dJ2_getChar_3b067_49 : decode cJ2_getChar_3b067 49 = .ok (.sipush 255, 3) := by decide +kernel
theorem dJ2_getChar_3b067_52 : decode cJ2_getChar_3b067 52 = .ok (.iand, 1) := by decide +kernel
theorem dJ2_getChar_3b067_53 : decode cJ2_getChar_3b067 53 = .ok (.getstatic 63, 3) := by decide +kernel
theorem dJ2_getChar_3b067_56 : decode cJ2_getChar_3b067 56 = .ok (.ishl, 1) := by decide +kernel
theorem dJ2_getChar_3b067_57 : decode cJ2_getChar_3b067 57 = .ok (.ior, 1) := by decide +kernel
theorem dJ2_getChar_3b067_58 : decode cJ2_getChar_3b067 58 = .ok (.i2c, 1) := by decide +kernel
theorem dJ2_getChar_3b067_59 : decode cJ2_getChar_3b067 59 = .ok (.ireturn, 1) := by decide +kernel
theorem dJ2_length_9d52b_0 : decode cJ2_length_9d52b 0 = .ok (.aload_n 0, 1) := by decide +kernel
theorem dJ2_length_9d52b_1 : decode cJ2_length_9d52b 1 = .ok (.arraylength, 1) := by decide +kernel
theorem dJ2_length_9d52b_2 : decode cJ2_length_9d52b 2 = .ok (.iconst 1, 1) := by decide +kernel
theorem dJ2_length_9d52b_3 : decode cJ2_length_9d52b 3 = .ok (.ishr, 1) := by decide +kernel
theorem dJ2_length_9d52b_4 : decode cJ2_length_9d52b 4 = .ok (.ireturn, 1) := by decide +kernel
theorem dJ2_indexOf_4cfef_0 : decode cJ2_indexOf_4cfef 0 = .ok (.iload_n 2, 1) := by decide +kernel
theorem dJ2_indexOf_4cfef_1 : decode cJ2_indexOf_4cfef 1 = .ok (.iconst 0, 1) := by decide +kernel
theorem dJ2_indexOf_4cfef_2 : decode cJ2_indexOf_4cfef 2 = .ok (.invokestatic 224, 3) := by decide +kernel
theorem dJ2_indexOf_4cfef_5 : decode cJ2_indexOf_4cfef 5 = .ok (.istore_n 2, 1) := by decide +kernel
theorem dJ2_indexOf_4cfef_6 : decode cJ2_indexOf_4cfef 6 = .ok (.iload_n 3, 1) := by decide +kernel
theorem dJ2_indexOf_4cfef_7 : decode cJ2_indexOf_4cfef 7 = .ok (.aload_n 0, 1) := by decide +kernel
theorem dJ2_indexOf_4cfef_8 : decode cJ2_indexOf_4cfef 8 = .ok (.arraylength, 1) := by decide +kernel
theorem dJ2_indexOf_4cfef_9 : decode cJ2_indexOf_4cfef 9 = .ok (.iconst 1, 1) := by decide +kernel
theorem dJ2_indexOf_4cfef_10 : decode cJ2_indexOf_4cfef 10 = .ok (.ishr, 1) := by decide +kernel
theorem dJ2_indexOf_4cfef_11 : decode cJ2_indexOf_4cfef 11 = .ok (.invokestatic 183, 3) := by decide +kernel
theorem dJ2_indexOf_4cfef_14 : decode cJ2_indexOf_4cfef 14 = .ok (.istore_n 3, 1) := by decide +kernel
theorem dJ2_indexOf_4cfef_15 : decode cJ2_indexOf_4cfef 15 = .ok (.iload_n 2, 1) := by decide +kernel
theorem dJ2_indexOf_4cfef_16 : decode cJ2_indexOf_4cfef 16 = .ok (.iload_n 3, 1) := by decide +kernel
theorem dJ2_indexOf_4cfef_17 : decode cJ2_indexOf_4cfef 17 = .ok (.if_icmp .lt 5, 3) := by decide +kernel
theorem dJ2_indexOf_4cfef_20 : decode cJ2_indexOf_4cfef 20 = .ok (.iconst (-1), 1) := by decide +kernel
theorem dJ2_indexOf_4cfef_21 : decode cJ2_indexOf_4cfef 21 = .ok (.ireturn, 1) := by decide +kernel
theorem dJ2_indexOf_4cfef_22 : decode cJ2_indexOf_4cfef 22 = .ok (.iload_n 1, 1) := by decide +kernel
theorem dJ2_indexOf_4cfef_23 : decode cJ2_indexOf_4cfef 23 = .ok (.ldc 227, 2) := by decide +kernel
theorem dJ2_indexOf_4cfef_25 : decode cJ2_indexOf_4cfef 25 = .ok (.if_icmp .ge 11, 3) := by decide +kernel
theorem dJ2_indexOf_4cfef_28 : decode cJ2_indexOf_4cfef 28 = .ok (.aload_n 0, 1) := by decide +kernel
theorem dJ2_indexOf_4cfef_29 : decode cJ2_indexOf_4cfef 29 = .ok (.iload_n 1, 1) := by decide +kernel
theorem dJ2_indexOf_4cfef_30 : decode cJ2_indexOf_4cfef 30 = .ok (.iload_n 2, 1) := by decide +kernel
theorem dJ2_indexOf_4cfef_31 : decode cJ2_indexOf_4cfef 31 = .ok (.iload_n 3, 1) := by decide +kernel
theorem dJ2_indexOf_4cfef_32 : decode cJ2_indexOf_4cfef 32 = .ok (.invokestatic 228, 3) := by decide +kernel
theorem dJ2_indexOf_4cfef_35 : decode cJ2_indexOf_4cfef 35 = .ok (.ireturn, 1) := by decide +kernel
theorem dJ2_indexOf_4cfef_36 : decode cJ2_indexOf_4cfef 36 = .ok (.aload_n 0, 1) := by decide +kernel
theorem dJ2_indexOf_4cfef_37 : decode cJ2_indexOf_4cfef 37 = .ok (.iload_n 1, 1) := by decide +kernel
theorem dJ2_indexOf_4cfef_38 : decode cJ2_indexOf_4cfef 38 = .ok (.iload_n 2, 1) := by decide +kernel
theorem dJ2_indexOf_4cfef_39 : decode cJ2_indexOf_4cfef 39 = .ok (.iload_n 3, 1) := by decide +kernel
theorem dJ2_indexOf_4cfef_40 : decode cJ2_indexOf_4cfef 40 = .ok (.invokestatic 232, 3) := by decide +kernel
theorem dJ2_indexOf_4cfef_43 : decode cJ2_indexOf_4cfef 43 = .ok (.ireturn, 1) := by decide +kernel
theorem dJ2_indexOfChar_4cfef_0 : decode cJ2_indexOfChar_4cfef 0 = .ok (.iload_n 2, 1) := by decide +kernel
theorem dJ2_indexOfChar_4cfef_1 : decode cJ2_indexOfChar_4cfef 1 = .ok (.iload_n 3, 1) := by decide +kernel
theorem dJ2_indexOfChar_4cfef_2 : decode cJ2_indexOfChar_4cfef 2 = .ok (.aload_n 0, 1) := by decide +kernel
theorem dJ2_indexOfChar_4cfef_3 : decode cJ2_indexOfChar_4cfef 3 = .ok (.invokestatic 96, 3) := by decide +kernel
theorem dJ2_indexOfChar_4cfef_6 : decode cJ2_indexOfChar_4cfef 6 = .ok (.aload_n 0, 1) := by decide +kernel
theorem dJ2_indexOfChar_4cfef_7 : decode cJ2_indexOfChar_4cfef 7 = .ok (.iload_n 1, 1) := by decide +kernel
theorem dJ2_indexOfChar_4cfef_8 : decode cJ2_indexOfChar_4cfef 8 = .ok (.iload_n 2, 1) := by decide +kernel
theorem dJ2_indexOfChar_4cfef_9 : decode cJ2_indexOfChar_4cfef 9 = .ok (.iload_n 3, 1) := by decide +kernel
theorem dJ2_indexOfChar_4cfef_10 : decode cJ2_indexOfChar_4cfef 10 = .ok (.invokestatic 244, 3) := by decide +kernel
theorem dJ2_indexOfChar_4cfef_13 : decode cJ2_indexOfChar_4cfef 13 = .ok (.ireturn, 1) := by decide +kernel
theorem dJ2_indexOfCharUnsafe_4cfef_0 : decode cJ2_indexOfCharUnsafe_4cfef 0 = .ok (.iload_n 2, 1) := by decide +kernel
theorem dJ2_indexOfCharUnsafe_4cfef_1 : decode cJ2_indexOfCharUnsafe_4cfef 1 = .ok (.istore 4, 2) := by decide +kernel
theorem dJ2_indexOfCharUnsafe_4cfef_3 : decode cJ2_indexOfCharUnsafe_4cfef 3 = .ok (.iload 4, 2) := by decide +kernel
theorem dJ2_indexOfCharUnsafe_4cfef_5 : decode cJ2_indexOfCharUnsafe_4cfef 5 = .ok (.iload_n 3, 1) := by decide +kernel
theorem dJ2_indexOfCharUnsafe_4cfef_6 : decode cJ2_indexOfCharUnsafe_4cfef 6 = .ok (.if_icmp .ge 22, 3) := by decide +kernel
theorem dJ2_indexOfCharUnsafe_4cfef_9 : decode cJ2_indexOfCharUnsafe_4cfef 9 = .ok (.aload_n 0, 1) := by decide +kernel
theorem dJ2_indexOfCharUnsafe_4cfef_10 : decode cJ2_indexOfCharUnsafe_4cfef 10 = .ok (.iload 4, 2) := by decide +kernel
theorem dJ2_indexOfCharUnsafe_4cfef_12 : decode cJ2_indexOfCharUnsafe_4cfef 12 = .ok (.invokestatic 71, 3) := by decide +kernel
theorem dJ2_indexOfCharUnsafe_4cfef_15 : decode cJ2_indexOfCharUnsafe_4cfef 15 = .ok (.iload_n 1, 1) := by decide +kernel
theorem dJ2_indexOfCharUnsafe_4cfef_16 : decode cJ2_indexOfCharUnsafe_4cfef 16 = .ok (.if_icmp .ne 6, 3) := by decide +kernel
theorem dJ2_indexOfCharUnsafe_4cfef_19 : decode cJ2_indexOfCharUnsafe_4cfef 19 = .ok (.iload 4, 2) := by decide +kernel
theorem dJ2_indexOfCharUnsafe_4cfef_21 : decode cJ2_indexOfCharUnsafe_4cfef 21 = .ok (.ireturn, 1) := by decide +kernel
theorem dJ2_indexOfCharUnsafe_4cfef_22 : decode cJ2_indexOfCharUnsafe_4cfef 22 = .ok (.iinc 4 1, 3) := by decide +kernel
theorem dJ2_indexOfCharUnsafe_4cfef_25 : decode cJ2_indexOfCharUnsafe_4cfef 25 = .ok (.goto (-22), 3) := by decide +kernel
theorem dJ2_indexOfCharUnsafe_4cfef_28 : decode cJ2_indexOfCharUnsafe_4cfef 28 = .ok (.iconst (-1), 1) := by decide +kernel
theorem dJ2_indexOfCharUnsafe_4cfef_29 : decode cJ2_indexOfCharUnsafe_4cfef 29 = .ok (.ireturn, 1) := by decide +kernel
theorem dJ2_indexOfSupplementary_4cfef_0 : decode cJ2_indexOfSupplementary_4cfef 0 = .ok (.iload_n 1, 1) := by decide +kernel
theorem dJ2_indexOfSupplementary_4cfef_1 : decode cJ2_indexOfSupplementary_4cfef 1 = .ok (.invokestatic 164, 3) := by decide +kernel
theorem dJ2_indexOfSupplementary_4cfef_4 : decode cJ2_indexOfSupplementary_4cfef 4 = .ok (.ifCond .eq 65, 3) := by decide +kernel
theorem dJ2_indexOfSupplementary_4cfef_7 : decode cJ2_indexOfSupplementary_4cfef 7 = .ok (.iload_n 1, 1) := by decide +kernel
theorem dJ2_indexOfSupplementary_4cfef_8 : decode cJ2_indexOfSupplementary_4cfef 8 = .ok (.invokestatic 157, 3) := by decide +kernel
theorem dJ2_indexOfSupplementary_4cfef_11 : decode cJ2_indexOfSupplementary_4cfef 11 = .ok (.istore 4, 2) := by decide +kernel
theorem dJ2_indexOfSupplementary_4cfef_13 : decode cJ2_indexOfSupplementary_4cfef 13 = .ok (.iload_n 1, 1) := by decide +kernel
theorem dJ2_indexOfSupplementary_4cfef_14 : decode cJ2_indexOfSupplementary_4cfef 14 = .ok (.invokestatic 161, 3) := by decide +kernel
theorem dJ2_indexOfSupplementary_4cfef_17 : decode cJ2_indexOfSupplementary_4cfef 17 = .ok (.istore 5, 2) := by decide +kernel
theorem dJ2_indexOfSupplementary_4cfef_19 : decode cJ2_indexOfSupplementary_4cfef 19 = .ok (.iload_n 2, 1) := by decide +kernel
theorem dJ2_indexOfSupplementary_4cfef_20 : decode cJ2_indexOfSupplementary_4cfef 20 = .ok (.iload_n 3, 1) := by decide +kernel
theorem dJ2_indexOfSupplementary_4cfef_21 : decode cJ2_indexOfSupplementary_4cfef 21 = .ok (.aload_n 0, 1) := by decide +kernel
theorem dJ2_indexOfSupplementary_4cfef_22 : decode cJ2_indexOfSupplementary_4cfef 22 = .ok (.invokestatic 96, 3) := by decide +kernel
theorem dJ2_indexOfSupplementary_4cfef_25 : decode cJ2_indexOfSupplementary_4cfef 25 = .ok (.iload_n 2, 1) := by decide +kernel
theorem dJ2_indexOfSupplementary_4cfef_26 : decode cJ2_indexOfSupplementary_4cfef 26 = .ok (.istore 6, 2) := by decide +kernel
theorem dJ2_indexOfSupplementary_4cfef_28 : decode cJ2_indexOfSupplementary_4cfef 28 = .ok (.iload 6, 2) := by decide +kernel
theorem dJ2_indexOfSupplementary_4cfef_30 : decode cJ2_indexOfSupplementary_4cfef 30 = .ok (.iload_n 3, 1) := by decide +kernel
theorem dJ2_indexOfSupplementary_4cfef_31 : decode cJ2_indexOfSupplementary_4cfef 31 = .ok (.iconst 1, 1) := by decide +kernel
theorem dJ2_indexOfSupplementary_4cfef_32 : decode cJ2_indexOfSupplementary_4cfef 32 = .ok (.isub, 1) := by decide +kernel
theorem dJ2_indexOfSupplementary_4cfef_33 : decode cJ2_indexOfSupplementary_4cfef 33 = .ok (.if_icmp .ge 36, 3) := by decide +kernel
theorem dJ2_indexOfSupplementary_4cfef_36 : decode cJ2_indexOfSupplementary_4cfef 36 = .ok (.aload_n 0, 1) := by decide +kernel
theorem dJ2_indexOfSupplementary_4cfef_37 : decode cJ2_indexOfSupplementary_4cfef 37 = .ok (.iload 6, 2) := by decide +kernel
theorem dJ2_indexOfSupplementary_4cfef_39 : decode cJ2_indexOfSupplementary_4cfef 39 = .ok (.invokestatic 71, 3) := by decide +kernel
theorem dJ2_indexOfSupplementary_4cfef_42 : decode cJ2_indexOfSupplementary_4cfef 42 = .ok (.iload 4, 2) := by decide +kernel
theorem dJ2_indexOfSupplementary_4cfef_44 : decode cJ2_indexOfSupplementary_4cfef 44 = .ok (.if_icmp .ne 19, 3) := by decide +kernel
theorem dJ2_indexOfSupplementary_4cfef_47 : decode cJ2_indexOfSupplementary_4cfef 47 = .ok (.aload_n 0, 1) := by decide +kernel
theorem dJ2_indexOfSupplementary_4cfef_48 : decode cJ2_indexOfSupplementary_4cfef 48 = .ok (.iload 6, 2) := by decide +kernel
theorem dJ2_indexOfSupplementary_4cfef_50 : decode cJ2_indexOfSupplementary_4cfef 50 = .ok (.iconst 1, 1) := by decide +kernel
theorem dJ2_indexOfSupplementary_4cfef_51 : decode cJ2_indexOfSupplementary_4cfef 51 = .ok (.iadd, 1) := by decide +kernel
theorem dJ2_indexOfSupplementary_4cfef_52 : decode cJ2_indexOfSupplementary_4cfef 52 = .ok (.invokestatic 71, 3) := by decide +kernel
theorem dJ2_indexOfSupplementary_4cfef_55 : decode cJ2_indexOfSupplementary_4cfef 55 = .ok (.iload 5, 2) := by decide +kernel
theorem dJ2_indexOfSupplementary_4cfef_57 : decode cJ2_indexOfSupplementary_4cfef 57 = .ok (.if_icmp .ne 6, 3) := by decide +kernel
theorem dJ2_indexOfSupplementary_4cfef_60 : decode cJ2_indexOfSupplementary_4cfef 60 = .ok (.iload 6, 2) := by decide +kernel
theorem dJ2_indexOfSupplementary_4cfef_62 : decode cJ2_indexOfSupplementary_4cfef 62 = .ok (.ireturn, 1) := by decide +kernel
theorem dJ2_indexOfSupplementary_4cfef_63 : decode cJ2_indexOfSupplementary_4cfef 63 = .ok (.iinc 6 1, 3) := by decide +kernel
theorem dJ2_indexOfSupplementary_4cfef_66 : decode cJ2_indexOfSupplementary_4cfef 66 = .ok (.goto (-38), 3) := by decide +kernel
theorem dJ2_indexOfSupplementary_4cfef_69 : decode cJ2_indexOfSupplementary_4cfef 69 = .ok (.iconst (-1), 1) := by decide +kernel
theorem dJ2_indexOfSupplementary_4cfef_70 : decode cJ2_indexOfSupplementary_4cfef 70 = .ok (.ireturn, 1) := by decide +kernel
theorem dJ2_charAt_3b067_0 : decode cJ2_charAt_3b067 0 = .ok (.iload_n 1, 1) := by decide +kernel
theorem dJ2_charAt_3b067_1 : decode cJ2_charAt_3b067 1 = .ok (.aload_n 0, 1) := by decide +kernel
theorem dJ2_charAt_3b067_2 : decode cJ2_charAt_3b067 2 = .ok (.invokestatic 67, 3) := by decide +kernel
theorem dJ2_charAt_3b067_5 : decode cJ2_charAt_3b067 5 = .ok (.aload_n 0, 1) := by decide +kernel
theorem dJ2_charAt_3b067_6 : decode cJ2_charAt_3b067 6 = .ok (.iload_n 1, 1) := by decide +kernel
theorem dJ2_charAt_3b067_7 : decode cJ2_charAt_3b067 7 = .ok (.invokestatic 71, 3) := by decide +kernel
theorem dJ2_charAt_3b067_10 : decode cJ2_charAt_3b067 10 = .ok (.ireturn, 1) := by decide +kernel
theorem dJ2_checkIndex_2214a_0 : decode cJ2_checkIndex_2214a 0 = .ok (.iload_n 0, 1) := by decide +kernel
theorem dJ2_checkIndex_2214a_1 : decode cJ2_checkIndex_2214a 1 = .ok (.aload_n 1, 1) := by decide +kernel
theorem dJ2_checkIndex_2214a_2 : decode cJ2_checkIndex_2214a 2 = .ok (.invokestatic 48, 3) := by decide +kernel
theorem dJ2_checkIndex_2214a_5 : decode cJ2_checkIndex_2214a 5 = .ok (.invokestatic 414, 3) := by decide +kernel
theorem dJ2_checkIndex_2214a_8 : decode cJ2_checkIndex_2214a 8 = .ok (.return_, 1) := by decide +kernel
theorem dJ2_checkBoundsBeginEnd_d044e_0 : decode cJ2_checkBoundsBeginEnd_d044e 0 = .ok (.iload_n 0, 1) := by decide +kernel
theorem dJ2_checkBoundsBeginEnd_d044e_1 : decode cJ2_checkBoundsBeginEnd_d044e 1 = .ok (.iload_n 1, 1) := by decide +kernel
theorem dJ2_checkBoundsBeginEnd_d044e_2 : decode cJ2_checkBoundsBeginEnd_d044e 2 = .ok (.aload_n 2, 1) := by decide +kernel
theorem dJ2_checkBoundsBeginEnd_d044e_3 : decode cJ2_checkBoundsBeginEnd_d044e 3 = .ok (.invokestatic 48, 3) := by decide +kernel
theorem dJ2_checkBoundsBeginEnd_d044e_6 : decode cJ2_checkBoundsBeginEnd_d044e 6 = .ok (.invokestatic 241, 3) := by decide +kernel
theorem dJ2_checkBoundsBeginEnd_d044e_9 : decode cJ2_checkBoundsBeginEnd_d044e 9 = .ok (.return_, 1) := by decide +kernel
theorem dJ3_checkIndex_8e157_0 : decode cJ3_checkIndex_8e157 0 = .ok (.iload_n 0, 1) := by decide +kernel
theorem dJ3_checkIndex_8e157_1 : decode cJ3_checkIndex_8e157 1 = .ok (.ifCond .lt 8, 3) := by decide +kernel
theorem dJ3_checkIndex_8e157_4 : decode cJ3_checkIndex_8e157 4 = .ok (.iload_n 0, 1) := by decide +kernel
theorem dJ3_checkIndex_8e157_5 : decode cJ3_checkIndex_8e157 5 = .ok (.iload_n 1, 1) := by decide +kernel
theorem dJ3_checkIndex_8e157_6 : decode cJ3_checkIndex_8e157 6 = .ok (.if_icmp .lt 10, 3) := by decide +kernel
theorem dJ3_checkIndex_8e157_9 : decode cJ3_checkIndex_8e157 9 = .ok (.aload_n 2, 1) := by decide +kernel
theorem dJ3_checkIndex_8e157_10 : decode cJ3_checkIndex_8e157 10 = .ok (.iload_n 0, 1) := by decide +kernel
theorem dJ3_checkIndex_8e157_11 : decode cJ3_checkIndex_8e157 11 = .ok (.iload_n 1, 1) := by decide +kernel
theorem dJ3_checkIndex_8e157_12 : decode cJ3_checkIndex_8e157 12 = .ok (.invokestatic 95, 3) := by decide +kernel
theorem dJ3_checkIndex_8e157_15 : decode cJ3_checkIndex_8e157 15 = .ok (.athrow, 1) := by decide +kernel
theorem dJ3_checkIndex_8e157_16 : decode cJ3_checkIndex_8e157 16 = .ok (.iload_n 0, 1) := by decide +kernel
theorem dJ3_checkIndex_8e157_17 : decode cJ3_checkIndex_8e157 17 = .ok (.ireturn, 1) := by decide +kernel
theorem dJ3_checkFromToIndex_8c36e_0 : decode cJ3_checkFromToIndex_8c36e 0 = .ok (.iload_n 0, 1) := by decide +kernel
theorem dJ3_checkFromToIndex_8c36e_1 : decode cJ3_checkFromToIndex_8c36e 1 = .ok (.ifCond .lt 13, 3) := by decide +kernel
theorem dJ3_checkFromToIndex_8c36e_4 : decode cJ3_checkFromToIndex_8c36e 4 = .ok (.iload_n 0, 1) := by decide +kernel
theorem dJ3_checkFromToIndex_8c36e_5 : decode cJ3_checkFromToIndex_8c36e 5 = .ok (.iload_n 1, 1) := by decide +kernel
theorem dJ3_checkFromToIndex_8c36e_6 : decode cJ3_checkFromToIndex_8c36e 6 = .ok (.if_icmp .gt 8, 3) := by decide +kernel
theorem dJ3_checkFromToIndex_8c36e_9 : decode cJ3_checkFromToIndex_8c36e 9 = .ok (.iload_n 1, 1) := by decide +kernel
theorem dJ3_checkFromToIndex_8c36e_10 : decode cJ3_checkFromToIndex_8c36e 10 = .ok (.iload_n 2, 1) := by decide +kernel
theorem dJ3_checkFromToIndex_8c36e_11 : decode cJ3_checkFromToIndex_8c36e 11 = .ok (.if_icmp .le 11, 3) := by decide +kernel
theorem dJ3_checkFromToIndex_8c36e_14 : decode cJ3_checkFromToIndex_8c36e 14 = .ok (.aload_n 3, 1) := by decide +kernel
theorem dJ3_checkFromToIndex_8c36e_15 : decode cJ3_checkFromToIndex_8c36e 15 = .ok (.iload_n 0, 1) := by decide +kernel
theorem dJ3_checkFromToIndex_8c36e_16 : decode cJ3_checkFromToIndex_8c36e 16 = .ok (.iload_n 1, 1) := by decide +kernel
theorem dJ3_checkFromToIndex_8c36e_17 : decode cJ3_checkFromToIndex_8c36e 17 = .ok (.iload_n 2, 1) := by decide +kernel
theorem dJ3_checkFromToIndex_8c36e_18 : decode cJ3_checkFromToIndex_8c36e 18 = .ok (.invokestatic 99, 3) := by decide +kernel
theorem dJ3_checkFromToIndex_8c36e_21 : decode cJ3_checkFromToIndex_8c36e 21 = .ok (.athrow, 1) := by decide +kernel
theorem dJ3_checkFromToIndex_8c36e_22 : decode cJ3_checkFromToIndex_8c36e 22 = .ok (.iload_n 0, 1) := by decide +kernel
theorem dJ3_checkFromToIndex_8c36e_23 : decode cJ3_checkFromToIndex_8c36e 23 = .ok (.ireturn, 1) := by decide +kernel
theorem dL_rate_0 : decode cL_rate 0 = .ok (.aload 4, 2) := by decide +kernel
theorem dL_rate_2 : decode cL_rate 2 = .ok (.iconst 0, 1) := by decide +kernel
theorem dL_rate_3 : decode cL_rate 3 = .ok (.aload_n 0, 1) := by decide +kernel
theorem dL_rate_4 : decode cL_rate 4 = .ok (.iload_n 1, 1) := by decide +kernel
theorem dL_rate_5 : decode cL_rate 5 = .ok (.iload_n 2, 1) := by decide +kernel
theorem dL_rate_6 : decode cL_rate 6 = .ok (.iload_n 3, 1) := by decide +kernel
theorem dL_rate_7 : decode cL_rate 7 = .ok (.invokevirtual 7, 3) := by decide +kernel
theorem dL_rate_10 : decode cL_rate 10 = .ok (.ifCond .eq 7, 3) := by decide +kernel
theorem dL_rate_13 : decode cL_rate 13 = .ok (.lconst 1, 1) := by decide +kernel
theorem dL_rate_14 : decode cL_rate 14 = .ok (.goto 4, 3) := by decide +kernel
theorem dL_rate_17 : decode cL_rate 17 = .ok (.lconst 0, 1) := by decide +kernel
theorem dL_rate_18 : decode cL_rate 18 = .ok (.lastore, 1) := by decide +kernel
theorem dL_rate_19 : decode cL_rate 19 = .ok (.goto 7, 3) := by decide +kernel
theorem dL_rate_22 : decode cL_rate 22 = .ok (.astore 5, 2) := by decide +kernel
theorem dL_rate_24 : decode cL_rate 24 = .ok (.iconst 1, 1) := by decide +kernel
theorem dL_rate_25 : decode cL_rate 25 = .ok (.ireturn, 1) := by decide +kernel
theorem dL_rate_26 : decode cL_rate 26 = .ok (.iconst 0, 1) := by decide +kernel
theorem dL_rate_27 : decode cL_rate 27 = .ok (.ireturn, 1) := by decide +kernel
theorem dL_person_0 : decode cL_person 0 = .ok (.aload_n 3, 1) := by decide +kernel
theorem dL_person_1 : decode cL_person 1 = .ok (.iconst 0, 1) := by decide +kernel
theorem dL_person_2 : decode cL_person 2 = .ok (.aload_n 0, 1) := by decide +kernel
theorem dL_person_3 : decode cL_person 3 = .ok (.iload_n 1, 1) := by decide +kernel
theorem dL_person_4 : decode cL_person 4 = .ok (.iload_n 2, 1) := by decide +kernel
theorem dL_person_5 : decode cL_person 5 = .ok (.invokevirtual 15, 3) := by decide +kernel
theorem dL_person_8 : decode cL_person 8 = .ok (.i2l, 1) := by decide +kernel
theorem dL_person_9 : decode cL_person 9 = .ok (.lastore, 1) := by decide +kernel
theorem dL_person_10 : decode cL_person 10 = .ok (.goto 7, 3) := by decide +kernel
theorem dL_person_13 : decode cL_person 13 = .ok (.astore 4, 2) := by decide +kernel
theorem dL_person_15 : decode cL_person 15 = .ok (.iconst 1, 1) := by decide +kernel
theorem dL_person_16 : decode cL_person 16 = .ok (.ireturn, 1) := by decide +kernel
theorem dL_person_17 : decode cL_person 17 = .ok (.iconst 0, 1) := by decide +kernel
theorem dL_person_18 : decode cL_person 18 = .ok (.ireturn, 1) := by decide +kernel
theorem dL_work_0 : decode cL_work 0 = .ok (.aload 7, 2) := by decide +kernel
theorem dL_work_2 : decode cL_work 2 = .ok (.iconst 0, 1) := by decide +kernel
theorem dL_work_3 : decode cL_work 3 = .ok (.aload_n 0, 1) := by decide +kernel
theorem dL_work_4 : decode cL_work 4 = .ok (.iload_n 1, 1) := by decide +kernel
theorem dL_work_5 : decode cL_work 5 = .ok (.iload_n 2, 1) := by decide +kernel
theorem dL_work_6 : decode cL_work 6 = .ok (.iload_n 3, 1) := by decide +kernel
theorem dL_work_7 : decode cL_work 7 = .ok (.iload 4, 2) := by decide +kernel
theorem dL_work_9 : decode cL_work 9 = .ok (.iload 5, 2) := by decide +kernel
theorem dL_work_11 : decode cL_work 11 = .ok (.iload 6, 2) := by decide +kernel
theorem dL_work_13 : decode cL_work 13 = .ok (.invokevirtual 19, 3) := by decide +kernel
theorem dL_work_16 : decode cL_work 16 = .ok (.i2l, 1) := by decide +kernel
theorem dL_work_17 : decode cL_work 17 = .ok (.lastore, 1) := by decide +kernel
theorem dL_work_18 : decode cL_work 18 = .ok (.goto 7, 3) := by decide +kernel
theorem dL_work_21 : decode cL_work 21 = .ok (.astore 8, 2) := by decide +kernel
theorem dL_work_23 : decode cL_work 23 = .ok (.iconst 1, 1) := by decide +kernel
theorem dL_work_24 : decode cL_work 24 = .ok (.ireturn, 1) := by decide +kernel
theorem dL_work_25 : decode cL_work 25 = .ok (.iconst 0, 1) := by decide +kernel
theorem dL_work_26 : decode cL_work 26 = .ok (.ireturn, 1) := by decide +kernel
theorem dL_joins_0 : decode cL_joins 0 = .ok (.aload 4, 2) := by decide +kernel
theorem dL_joins_2 : decode cL_joins 2 = .ok (.iconst 0, 1) := by decide +kernel
theorem dL_joins_3 : decode cL_joins 3 = .ok (.aload_n 0, 1) := by decide +kernel
theorem dL_joins_4 : decode cL_joins 4 = .ok (.iload_n 1, 1) := by decide +kernel
theorem dL_joins_5 : decode cL_joins 5 = .ok (.iload_n 2, 1) := by decide +kernel
theorem dL_joins_6 : decode cL_joins 6 = .ok (.iload_n 3, 1) := by decide +kernel
theorem dL_joins_7 : decode cL_joins 7 = .ok (.invokevirtual 23, 3) := by decide +kernel
theorem dL_joins_10 : decode cL_joins 10 = .ok (.i2l, 1) := by decide +kernel
theorem dL_joins_11 : decode cL_joins 11 = .ok (.lastore, 1) := by decide +kernel
theorem dL_joins_12 : decode cL_joins 12 = .ok (.goto 7, 3) := by decide +kernel
theorem dL_joins_15 : decode cL_joins 15 = .ok (.astore 5, 2) := by decide +kernel
theorem dL_joins_17 : decode cL_joins 17 = .ok (.iconst 1, 1) := by decide +kernel
theorem dL_joins_18 : decode cL_joins 18 = .ok (.ireturn, 1) := by decide +kernel
theorem dL_joins_19 : decode cL_joins 19 = .ok (.iconst 0, 1) := by decide +kernel
theorem dL_joins_20 : decode cL_joins 20 = .ok (.ireturn, 1) := by decide +kernel
theorem dL_society_0 : decode cL_society 0 = .ok (.aload_n 3, 1) := by decide +kernel
theorem dL_society_1 : decode cL_society 1 = .ok (.iconst 0, 1) := by decide +kernel
theorem dL_society_2 : decode cL_society 2 = .ok (.aload_n 0, 1) := by decide +kernel
theorem dL_society_3 : decode cL_society 3 = .ok (.iload_n 1, 1) := by decide +kernel
theorem dL_society_4 : decode cL_society 4 = .ok (.iload_n 2, 1) := by decide +kernel
theorem dL_society_5 : decode cL_society 5 = .ok (.invokevirtual 27, 3) := by decide +kernel
theorem dL_society_8 : decode cL_society 8 = .ok (.i2l, 1) := by decide +kernel
theorem dL_society_9 : decode cL_society 9 = .ok (.lastore, 1) := by decide +kernel
theorem dL_society_10 : decode cL_society 10 = .ok (.goto 7, 3) := by decide +kernel
theorem dL_society_13 : decode cL_society 13 = .ok (.astore 4, 2) := by decide +kernel
theorem dL_society_15 : decode cL_society 15 = .ok (.iconst 1, 1) := by decide +kernel
theorem dL_society_16 : decode cL_society 16 = .ok (.ireturn, 1) := by decide +kernel
theorem dL_society_17 : decode cL_society 17 = .ok (.iconst 0, 1) := by decide +kernel
theorem dL_society_18 : decode cL_society 18 = .ok (.ireturn, 1) := by decide +kernel
theorem dL_evenings_0 : decode cL_evenings 0 = .ok (.aload_n 2, 1) := by decide +kernel
theorem dL_evenings_1 : decode cL_evenings 1 = .ok (.iconst 0, 1) := by decide +kernel
theorem dL_evenings_2 : decode cL_evenings 2 = .ok (.aload_n 0, 1) := by decide +kernel
theorem dL_evenings_3 : decode cL_evenings 3 = .ok (.iload_n 1, 1) := by decide +kernel
theorem dL_evenings_4 : decode cL_evenings 4 = .ok (.invokevirtual 30, 3) := by decide +kernel
theorem dL_evenings_7 : decode cL_evenings 7 = .ok (.i2l, 1) := by decide +kernel
theorem dL_evenings_8 : decode cL_evenings 8 = .ok (.lastore, 1) := by decide +kernel
theorem dL_evenings_9 : decode cL_evenings 9 = .ok (.goto 6, 3) := by decide +kernel
theorem dL_evenings_12 : decode cL_evenings 12 = .ok (.astore_n 3, 1) := by decide +kernel
theorem dL_evenings_13 : decode cL_evenings 13 = .ok (.iconst 1, 1) := by decide +kernel
theorem dL_evenings_14 : decode cL_evenings 14 = .ok (.ireturn, 1) := by decide +kernel
theorem dL_evenings_15 : decode cL_evenings 15 = .ok (.iconst 0, 1) := by decide +kernel
theorem dL_evenings_16 : decode cL_evenings 16 = .ok (.ireturn, 1) := by decide +kernel
theorem dL_death_0 : decode cL_death 0 = .ok (.aload 4, 2) := by decide +kernel
theorem dL_death_2 : decode cL_death 2 = .ok (.iconst 0, 1) := by decide +kernel
theorem dL_death_3 : decode cL_death 3 = .ok (.aload_n 0, 1) := by decide +kernel
theorem dL_death_4 : decode cL_death 4 = .ok (.iload_n 1, 1) := by decide +kernel
theorem dL_death_5 : decode cL_death 5 = .ok (.iload_n 2, 1) := by decide +kernel
theorem dL_death_6 : decode cL_death 6 = .ok (.iload_n 3, 1) := by decide +kernel
theorem dL_death_7 : decode cL_death 7 = .ok (.invokevirtual 36, 3) := by decide +kernel
theorem dL_death_10 : decode cL_death 10 = .ok (.i2l, 1) := by decide +kernel
theorem dL_death_11 : decode cL_death 11 = .ok (.lastore, 1) := by decide +kernel
theorem dL_death_12 : decode cL_death 12 = .ok (.goto 7, 3) := by decide +kernel
theorem dL_death_15 : decode cL_death 15 = .ok (.astore 5, 2) := by decide +kernel
theorem dL_death_17 : decode cL_death 17 = .ok (.iconst 1, 1) := by decide +kernel
theorem dL_death_18 : decode cL_death 18 = .ok (.ireturn, 1) := by decide +kernel
theorem dL_death_19 : decode cL_death 19 = .ok (.iconst 0, 1) := by decide +kernel
theorem dL_death_20 : decode cL_death 20 = .ok (.ireturn, 1) := by decide +kernel
theorem dL_heir_0 : decode cL_heir 0 = .ok (.aload 5, 2) := by decide +kernel
theorem dL_heir_2 : decode cL_heir 2 = .ok (.iconst 0, 1) := by decide +kernel
theorem dL_heir_3 : decode cL_heir 3 = .ok (.aload_n 0, 1) := by decide +kernel
theorem dL_heir_4 : decode cL_heir 4 = .ok (.iload_n 1, 1) := by decide +kernel
theorem dL_heir_5 : decode cL_heir 5 = .ok (.iload_n 2, 1) := by decide +kernel
theorem dL_heir_6 : decode cL_heir 6 = .ok (.iload_n 3, 1) := by decide +kernel
theorem dL_heir_7 : decode cL_heir 7 = .ok (.iload 4, 2) := by decide +kernel
theorem dL_heir_9 : decode cL_heir 9 = .ok (.invokevirtual 39, 3) := by decide +kernel
theorem dL_heir_12 : decode cL_heir 12 = .ok (.i2l, 1) := by decide +kernel
theorem dL_heir_13 : decode cL_heir 13 = .ok (.lastore, 1) := by decide +kernel
theorem dL_heir_14 : decode cL_heir 14 = .ok (.goto 7, 3) := by decide +kernel
theorem dL_heir_17 : decode cL_heir 17 = .ok (.astore 6, 2) := by decide +kernel
theorem dL_heir_19 : decode cL_heir 19 = .ok (.iconst 1, 1) := by decide +kernel
theorem dL_heir_20 : decode cL_heir 20 = .ok (.ireturn, 1) := by decide +kernel
theorem dL_heir_21 : decode cL_heir 21 = .ok (.iconst 0, 1) := by decide +kernel
theorem dL_heir_22 : decode cL_heir 22 = .ok (.ireturn, 1) := by decide +kernel
theorem dL_sale_0 : decode cL_sale 0 = .ok (.aload 8, 2) := by decide +kernel
theorem dL_sale_2 : decode cL_sale 2 = .ok (.iconst 0, 1) := by decide +kernel
theorem dL_sale_3 : decode cL_sale 3 = .ok (.aload_n 0, 1) := by decide +kernel
theorem dL_sale_4 : decode cL_sale 4 = .ok (.iload_n 1, 1) := by decide +kernel
theorem dL_sale_5 : decode cL_sale 5 = .ok (.iload_n 2, 1) := by decide +kernel
theorem dL_sale_6 : decode cL_sale 6 = .ok (.iload_n 3, 1) := by decide +kernel
theorem dL_sale_7 : decode cL_sale 7 = .ok (.iload 4, 2) := by decide +kernel
theorem dL_sale_9 : decode cL_sale 9 = .ok (.iload 5, 2) := by decide +kernel
theorem dL_sale_11 : decode cL_sale 11 = .ok (.iload 6, 2) := by decide +kernel
theorem dL_sale_13 : decode cL_sale 13 = .ok (.iload 7, 2) := by decide +kernel
theorem dL_sale_15 : decode cL_sale 15 = .ok (.invokevirtual 43, 3) := by decide +kernel
theorem dL_sale_18 : decode cL_sale 18 = .ok (.i2l, 1) := by decide +kernel
theorem dL_sale_19 : decode cL_sale 19 = .ok (.lastore, 1) := by decide +kernel
theorem dL_sale_20 : decode cL_sale 20 = .ok (.goto 7, 3) := by decide +kernel
theorem dL_sale_23 : decode cL_sale 23 = .ok (.astore 9, 2) := by decide +kernel
theorem dL_sale_25 : decode cL_sale 25 = .ok (.iconst 1, 1) := by decide +kernel
theorem dL_sale_26 : decode cL_sale 26 = .ok (.ireturn, 1) := by decide +kernel
theorem dL_sale_27 : decode cL_sale 27 = .ok (.iconst 0, 1) := by decide +kernel
theorem dL_sale_28 : decode cL_sale 28 = .ok (.ireturn, 1) := by decide +kernel
theorem dL_fact_0 : decode cL_fact 0 = .ok (.aload 6, 2) := by decide +kernel
theorem dL_fact_2 : decode cL_fact 2 = .ok (.iconst 0, 1) := by decide +kernel
theorem dL_fact_3 : decode cL_fact 3 = .ok (.aload_n 0, 1) := by decide +kernel
theorem dL_fact_4 : decode cL_fact 4 = .ok (.iload_n 1, 1) := by decide +kernel
theorem dL_fact_5 : decode cL_fact 5 = .ok (.iload_n 2, 1) := by decide +kernel
theorem dL_fact_6 : decode cL_fact 6 = .ok (.iload_n 3, 1) := by decide +kernel
theorem dL_fact_7 : decode cL_fact 7 = .ok (.iload 4, 2) := by decide +kernel
theorem dL_fact_9 : decode cL_fact 9 = .ok (.iload 5, 2) := by decide +kernel
theorem dL_fact_11 : decode cL_fact 11 = .ok (.invokevirtual 47, 3) := by decide +kernel
theorem dL_fact_14 : decode cL_fact 14 = .ok (.i2l, 1) := by decide +kernel
theorem dL_fact_15 : decode cL_fact 15 = .ok (.lastore, 1) := by decide +kernel
theorem dL_fact_16 : decode cL_fact 16 = .ok (.goto 7, 3) := by decide +kernel
theorem dL_fact_19 : decode cL_fact 19 = .ok (.astore 7, 2) := by decide +kernel
theorem dL_fact_21 : decode cL_fact 21 = .ok (.iconst 1, 1) := by decide +kernel
theorem dL_fact_22 : decode cL_fact 22 = .ok (.ireturn, 1) := by decide +kernel
theorem dL_fact_23 : decode cL_fact 23 = .ok (.iconst 0, 1) := by decide +kernel
theorem dL_fact_24 : decode cL_fact 24 = .ok (.ireturn, 1) := by decide +kernel
theorem dL_back_0 : decode cL_back 0 = .ok (.aload_n 3, 1) := by decide +kernel
theorem dL_back_1 : decode cL_back 1 = .ok (.iconst 0, 1) := by decide +kernel
theorem dL_back_2 : decode cL_back 2 = .ok (.aload_n 0, 1) := by decide +kernel
theorem dL_back_3 : decode cL_back 3 = .ok (.iload_n 1, 1) := by decide +kernel
theorem dL_back_4 : decode cL_back 4 = .ok (.iload_n 2, 1) := by decide +kernel
theorem dL_back_5 : decode cL_back 5 = .ok (.invokevirtual 51, 3) := by decide +kernel
theorem dL_back_8 : decode cL_back 8 = .ok (.ifCond .eq 7, 3) := by decide +kernel
theorem dL_back_11 : decode cL_back 11 = .ok (.lconst 1, 1) := by decide +kernel
theorem dL_back_12 : decode cL_back 12 = .ok (.goto 4, 3) := by decide +kernel
theorem dL_back_15 : decode cL_back 15 = .ok (.lconst 0, 1) := by decide +kernel
theorem dL_back_16 : decode cL_back 16 = .ok (.lastore, 1) := by decide +kernel
theorem dL_back_17 : decode cL_back 17 = .ok (.goto 7, 3) := by decide +kernel
theorem dL_back_20 : decode cL_back 20 = .ok (.astore 4, 2) := by decide +kernel
theorem dL_back_22 : decode cL_back 22 = .ok (.iconst 1, 1) := by decide +kernel
theorem dL_back_23 : decode cL_back 23 = .ok (.ireturn, 1) := by decide +kernel
theorem dL_back_24 : decode cL_back 24 = .ok (.iconst 0, 1) := by decide +kernel
theorem dL_back_25 : decode cL_back 25 = .ok (.ireturn, 1) := by decide +kernel
theorem dL_claim_0 : decode cL_claim 0 = .ok (.aload_n 3, 1) := by decide +kernel
theorem dL_claim_1 : decode cL_claim 1 = .ok (.iconst 0, 1) := by decide +kernel
theorem dL_claim_2 : decode cL_claim 2 = .ok (.aload_n 0, 1) := by decide +kernel
theorem dL_claim_3 : decode cL_claim 3 = .ok (.iload_n 1, 1) := by decide +kernel
theorem dL_claim_4 : decode cL_claim 4 = .ok (.iload_n 2, 1) := by decide +kernel
theorem dL_claim_5 : decode cL_claim 5 = .ok (.invokevirtual 55, 3) := by decide +kernel
theorem dL_claim_8 : decode cL_claim 8 = .ok (.ifCond .eq 7, 3) := by decide +kernel
theorem dL_claim_11 : decode cL_claim 11 = .ok (.lconst 1, 1) := by decide +kernel
theorem dL_claim_12 : decode cL_claim 12 = .ok (.goto 4, 3) := by decide +kernel
theorem dL_claim_15 : decode cL_claim 15 = .ok (.lconst 0, 1) := by decide +kernel
theorem dL_claim_16 : decode cL_claim 16 = .ok (.lastore, 1) := by decide +kernel
theorem dL_claim_17 : decode cL_claim 17 = .ok (.goto 7, 3) := by decide +kernel
theorem dL_claim_20 : decode cL_claim 20 = .ok (.astore 4, 2) := by decide +kernel
theorem dL_claim_22 : decode cL_claim 22 = .ok (.iconst 1, 1) := by decide +kernel
theorem dL_claim_23 : decode cL_claim 23 = .ok (.ireturn, 1) := by decide +kernel
theorem dL_claim_24 : decode cL_claim 24 = .ok (.iconst 0, 1) := by decide +kernel
theorem dL_claim_25 : decode cL_claim 25 = .ok (.ireturn, 1) := by decide +kernel
theorem dL_law_0 : decode cL_law 0 = .ok (.aload 4, 2) := by decide +kernel
theorem dL_law_2 : decode cL_law 2 = .ok (.iconst 0, 1) := by decide +kernel
theorem dL_law_3 : decode cL_law 3 = .ok (.aload_n 0, 1) := by decide +kernel
theorem dL_law_4 : decode cL_law 4 = .ok (.iload_n 1, 1) := by decide +kernel
theorem dL_law_5 : decode cL_law 5 = .ok (.iload_n 2, 1) := by decide +kernel
theorem dL_law_6 : decode cL_law 6 = .ok (.iload_n 3, 1) := by decide +kernel
theorem dL_law_7 : decode cL_law 7 = .ok (.invokevirtual 59, 3) := by decide +kernel
theorem dL_law_10 : decode cL_law 10 = .ok (.i2l, 1) := by decide +kernel
theorem dL_law_11 : decode cL_law 11 = .ok (.lastore, 1) := by decide +kernel
theorem dL_law_12 : decode cL_law 12 = .ok (.goto 11, 3) := by decide +kernel
theorem dL_law_15 : decode cL_law 15 = .ok (.astore 5, 2) := by decide +kernel
theorem dL_law_17 : decode cL_law 17 = .ok (.iconst 1, 1) := by decide +kernel
theorem dL_law_18 : decode cL_law 18 = .ok (.ireturn, 1) := by decide +kernel
theorem dL_law_19 : decode cL_law 19 = .ok (.astore 5, 2) := by decide +kernel
theorem dL_law_21 : decode cL_law 21 = .ok (.iconst 2, 1) := by decide +kernel
theorem dL_law_22 : decode cL_law 22 = .ok (.ireturn, 1) := by decide +kernel
theorem dL_law_23 : decode cL_law 23 = .ok (.iconst 0, 1) := by decide +kernel
theorem dL_law_24 : decode cL_law 24 = .ok (.ireturn, 1) := by decide +kernel
theorem dL_sold_0 : decode cL_sold 0 = .ok (.aload 4, 2) := by decide +kernel
theorem dL_sold_2 : decode cL_sold 2 = .ok (.iconst 0, 1) := by decide +kernel
theorem dL_sold_3 : decode cL_sold 3 = .ok (.aload_n 0, 1) := by decide +kernel
theorem dL_sold_4 : decode cL_sold 4 = .ok (.iload_n 1, 1) := by decide +kernel
theorem dL_sold_5 : decode cL_sold 5 = .ok (.iload_n 2, 1) := by decide +kernel
theorem dL_sold_6 : decode cL_sold 6 = .ok (.iload_n 3, 1) := by decide +kernel
theorem dL_sold_7 : decode cL_sold 7 = .ok (.invokevirtual 62, 3) := by decide +kernel
theorem dL_sold_10 : decode cL_sold 10 = .ok (.i2l, 1) := by decide +kernel
theorem dL_sold_11 : decode cL_sold 11 = .ok (.lastore, 1) := by decide +kernel
theorem dL_sold_12 : decode cL_sold 12 = .ok (.goto 11, 3) := by decide +kernel
theorem dL_sold_15 : decode cL_sold 15 = .ok (.astore 5, 2) := by decide +kernel
theorem dL_sold_17 : decode cL_sold 17 = .ok (.iconst 1, 1) := by decide +kernel
theorem dL_sold_18 : decode cL_sold 18 = .ok (.ireturn, 1) := by decide +kernel
theorem dL_sold_19 : decode cL_sold 19 = .ok (.astore 5, 2) := by decide +kernel
theorem dL_sold_21 : decode cL_sold 21 = .ok (.iconst 2, 1) := by decide +kernel
theorem dL_sold_22 : decode cL_sold 22 = .ok (.ireturn, 1) := by decide +kernel
theorem dL_sold_23 : decode cL_sold 23 = .ok (.iconst 0, 1) := by decide +kernel
theorem dL_sold_24 : decode cL_sold 24 = .ok (.ireturn, 1) := by decide +kernel
theorem dL_has_0 : decode cL_has 0 = .ok (.aload 5, 2) := by decide +kernel
theorem dL_has_2 : decode cL_has 2 = .ok (.iconst 0, 1) := by decide +kernel
theorem dL_has_3 : decode cL_has 3 = .ok (.aload_n 0, 1) := by decide +kernel
theorem dL_has_4 : decode cL_has 4 = .ok (.iload_n 1, 1) := by decide +kernel
theorem dL_has_5 : decode cL_has 5 = .ok (.iload_n 2, 1) := by decide +kernel
theorem dL_has_6 : decode cL_has 6 = .ok (.iload_n 3, 1) := by decide +kernel
theorem dL_has_7 : decode cL_has 7 = .ok (.iload 4, 2) := by decide +kernel
theorem dL_has_9 : decode cL_has 9 = .ok (.invokevirtual 65, 3) := by decide +kernel
theorem dL_has_12 : decode cL_has 12 = .ok (.i2l, 1) := by decide +kernel
theorem dL_has_13 : decode cL_has 13 = .ok (.lastore, 1) := by decide +kernel
theorem dL_has_14 : decode cL_has 14 = .ok (.goto 11, 3) := by decide +kernel
theorem dL_has_17 : decode cL_has 17 = .ok (.astore 6, 2) := by decide +kernel
theorem dL_has_19 : decode cL_has 19 = .ok (.iconst 1, 1) := by decide +kernel
theorem dL_has_20 : decode cL_has 20 = .ok (.ireturn, 1) := by decide +kernel
theorem dL_has_21 : decode cL_has 21 = .ok (.astore 6, 2) := by decide +kernel
theorem dL_has_23 : decode cL_has 23 = .ok (.iconst 2, 1) := by decide +kernel
theorem dL_has_24 : decode cL_has 24 = .ok (.ireturn, 1) := by decide +kernel
theorem dL_has_25 : decode cL_has 25 = .ok (.iconst 0, 1) := by decide +kernel
theorem dL_has_26 : decode cL_has 26 = .ok (.ireturn, 1) := by decide +kernel
theorem dL_gets_0 : decode cL_gets 0 = .ok (.aload 4, 2) := by decide +kernel
theorem dL_gets_2 : decode cL_gets 2 = .ok (.iconst 0, 1) := by decide +kernel
theorem dL_gets_3 : decode cL_gets 3 = .ok (.aload_n 0, 1) := by decide +kernel
theorem dL_gets_4 : decode cL_gets 4 = .ok (.iload_n 1, 1) := by decide +kernel
theorem dL_gets_5 : decode cL_gets 5 = .ok (.iload_n 2, 1) := by decide +kernel
theorem dL_gets_6 : decode cL_gets 6 = .ok (.iload_n 3, 1) := by decide +kernel
theorem dL_gets_7 : decode cL_gets 7 = .ok (.invokevirtual 68, 3) := by decide +kernel
theorem dL_gets_10 : decode cL_gets 10 = .ok (.lastore, 1) := by decide +kernel
theorem dL_gets_11 : decode cL_gets 11 = .ok (.goto 11, 3) := by decide +kernel
theorem dL_gets_14 : decode cL_gets 14 = .ok (.astore 5, 2) := by decide +kernel
theorem dL_gets_16 : decode cL_gets 16 = .ok (.iconst 1, 1) := by decide +kernel
theorem dL_gets_17 : decode cL_gets 17 = .ok (.ireturn, 1) := by decide +kernel
theorem dL_gets_18 : decode cL_gets 18 = .ok (.astore 5, 2) := by decide +kernel
theorem dL_gets_20 : decode cL_gets 20 = .ok (.iconst 2, 1) := by decide +kernel
theorem dL_gets_21 : decode cL_gets 21 = .ok (.ireturn, 1) := by decide +kernel
theorem dL_gets_22 : decode cL_gets 22 = .ok (.iconst 0, 1) := by decide +kernel
theorem dL_gets_23 : decode cL_gets 23 = .ok (.ireturn, 1) := by decide +kernel
theorem dL_owes_0 : decode cL_owes 0 = .ok (.aload 5, 2) := by decide +kernel
theorem dL_owes_2 : decode cL_owes 2 = .ok (.iconst 0, 1) := by decide +kernel
theorem dL_owes_3 : decode cL_owes 3 = .ok (.aload_n 0, 1) := by decide +kernel
theorem dL_owes_4 : decode cL_owes 4 = .ok (.iload_n 1, 1) := by decide +kernel
theorem dL_owes_5 : decode cL_owes 5 = .ok (.iload_n 2, 1) := by decide +kernel
theorem dL_owes_6 : decode cL_owes 6 = .ok (.iload_n 3, 1) := by decide +kernel
theorem dL_owes_7 : decode cL_owes 7 = .ok (.iload 4, 2) := by decide +kernel
theorem dL_owes_9 : decode cL_owes 9 = .ok (.invokevirtual 72, 3) := by decide +kernel
theorem dL_owes_12 : decode cL_owes 12 = .ok (.lastore, 1) := by decide +kernel
theorem dL_owes_13 : decode cL_owes 13 = .ok (.goto 11, 3) := by decide +kernel
theorem dL_owes_16 : decode cL_owes 16 = .ok (.astore 6, 2) := by decide +kernel
theorem dL_owes_18 : decode cL_owes 18 = .ok (.iconst 1, 1) := by decide +kernel
theorem dL_owes_19 : decode cL_owes 19 = .ok (.ireturn, 1) := by decide +kernel
theorem dL_owes_20 : decode cL_owes 20 = .ok (.astore 6, 2) := by decide +kernel
theorem dL_owes_22 : decode cL_owes 22 = .ok (.iconst 2, 1) := by decide +kernel
theorem dL_owes_23 : decode cL_owes 23 = .ok (.ireturn, 1) := by decide +kernel
theorem dL_owes_24 : decode cL_owes 24 = .ok (.iconst 0, 1) := by decide +kernel
theorem dL_owes_25 : decode cL_owes 25 = .ok (.ireturn, 1) := by decide +kernel
theorem dL_net_0 : decode cL_net 0 = .ok (.aload 4, 2) := by decide +kernel
theorem dL_net_2 : decode cL_net 2 = .ok (.iconst 0, 1) := by decide +kernel
theorem dL_net_3 : decode cL_net 3 = .ok (.aload_n 0, 1) := by decide +kernel
theorem dL_net_4 : decode cL_net 4 = .ok (.iload_n 1, 1) := by decide +kernel
theorem dL_net_5 : decode cL_net 5 = .ok (.iload_n 2, 1) := by decide +kernel
theorem dL_net_6 : decode cL_net 6 = .ok (.iload_n 3, 1) := by decide +kernel
theorem dL_net_7 : decode cL_net 7 = .ok (.invokevirtual 76, 3) := by decide +kernel
theorem dL_net_10 : decode cL_net 10 = .ok (.lastore, 1) := by decide +kernel
theorem dL_net_11 : decode cL_net 11 = .ok (.goto 11, 3) := by decide +kernel
theorem dL_net_14 : decode cL_net 14 = .ok (.astore 5, 2) := by decide +kernel
theorem dL_net_16 : decode cL_net 16 = .ok (.iconst 1, 1) := by decide +kernel
theorem dL_net_17 : decode cL_net 17 = .ok (.ireturn, 1) := by decide +kernel
theorem dL_net_18 : decode cL_net 18 = .ok (.astore 5, 2) := by decide +kernel
theorem dL_net_20 : decode cL_net 20 = .ok (.iconst 2, 1) := by decide +kernel
theorem dL_net_21 : decode cL_net 21 = .ok (.ireturn, 1) := by decide +kernel
theorem dL_net_22 : decode cL_net 22 = .ok (.iconst 0, 1) := by decide +kernel
theorem dL_net_23 : decode cL_net 23 = .ok (.ireturn, 1) := by decide +kernel
theorem dL_payments_0 : decode cL_payments 0 = .ok (.aload_n 3, 1) := by decide +kernel
theorem dL_payments_1 : decode cL_payments 1 = .ok (.iconst 0, 1) := by decide +kernel
theorem dL_payments_2 : decode cL_payments 2 = .ok (.aload_n 0, 1) := by decide +kernel
theorem dL_payments_3 : decode cL_payments 3 = .ok (.iload_n 1, 1) := by decide +kernel
theorem dL_payments_4 : decode cL_payments 4 = .ok (.iload_n 2, 1) := by decide +kernel
theorem dL_payments_5 : decode cL_payments 5 = .ok (.invokevirtual 79, 3) := by decide +kernel
theorem dL_payments_8 : decode cL_payments 8 = .ok (.i2l, 1) := by decide +kernel
theorem dL_payments_9 : decode cL_payments 9 = .ok (.lastore, 1) := by decide +kernel
theorem dL_payments_10 : decode cL_payments 10 = .ok (.goto 11, 3) := by decide +kernel
theorem dL_payments_13 : decode cL_payments 13 = .ok (.astore 4, 2) := by decide +kernel
theorem dL_payments_15 : decode cL_payments 15 = .ok (.iconst 1, 1) := by decide +kernel
theorem dL_payments_16 : decode cL_payments 16 = .ok (.ireturn, 1) := by decide +kernel
theorem dL_payments_17 : decode cL_payments 17 = .ok (.astore 4, 2) := by decide +kernel
theorem dL_payments_19 : decode cL_payments 19 = .ok (.iconst 2, 1) := by decide +kernel
theorem dL_payments_20 : decode cL_payments 20 = .ok (.ireturn, 1) := by decide +kernel
theorem dL_payments_21 : decode cL_payments 21 = .ok (.iconst 0, 1) := by decide +kernel
theorem dL_payments_22 : decode cL_payments 22 = .ok (.ireturn, 1) := by decide +kernel
theorem dL_again_0 : decode cL_again 0 = .ok (.aload 5, 2) := by decide +kernel
theorem dL_again_2 : decode cL_again 2 = .ok (.iconst 0, 1) := by decide +kernel
theorem dL_again_3 : decode cL_again 3 = .ok (.aload_n 0, 1) := by decide +kernel
theorem dL_again_4 : decode cL_again 4 = .ok (.iload_n 1, 1) := by decide +kernel
theorem dL_again_5 : decode cL_again 5 = .ok (.iload_n 2, 1) := by decide +kernel
theorem dL_again_6 : decode cL_again 6 = .ok (.iload_n 3, 1) := by decide +kernel
theorem dL_again_7 : decode cL_again 7 = .ok (.iload 4, 2) := by decide +kernel
theorem dL_again_9 : decode cL_again 9 = .ok (.invokevirtual 82, 3) := by decide +kernel
theorem dL_again_12 : decode cL_again 12 = .ok (.i2l, 1) := by decide +kernel
theorem dL_again_13 : decode cL_again 13 = .ok (.lastore, 1) := by decide +kernel
theorem dL_again_14 : decode cL_again 14 = .ok (.goto 7, 3) := by decide +kernel
theorem dL_again_17 : decode cL_again 17 = .ok (.astore 6, 2) := by decide +kernel
theorem dL_again_19 : decode cL_again 19 = .ok (.iconst 1, 1) := by decide +kernel
theorem dL_again_20 : decode cL_again 20 = .ok (.ireturn, 1) := by decide +kernel
theorem dL_again_21 : decode cL_again 21 = .ok (.iconst 0, 1) := by decide +kernel
theorem dL_again_22 : decode cL_again 22 = .ok (.ireturn, 1) := by decide +kernel
theorem dL_with_0 : decode cL_with 0 = .ok (.aload 4, 2) := by decide +kernel
theorem dL_with_2 : decode cL_with 2 = .ok (.iconst 0, 1) := by decide +kernel
theorem dL_with_3 : decode cL_with 3 = .ok (.aload_n 0, 1) := by decide +kernel
theorem dL_with_4 : decode cL_with 4 = .ok (.iload_n 1, 1) := by decide +kernel
theorem dL_with_5 : decode cL_with 5 = .ok (.iload_n 2, 1) := by decide +kernel
theorem dL_with_6 : decode cL_with 6 = .ok (.iload_n 3, 1) := by decide +kernel
theorem dL_with_7 : decode cL_with 7 = .ok (.invokevirtual 85, 3) := by decide +kernel
theorem dL_with_10 : decode cL_with 10 = .ok (.i2l, 1) := by decide +kernel
theorem dL_with_11 : decode cL_with 11 = .ok (.lastore, 1) := by decide +kernel
theorem dL_with_12 : decode cL_with 12 = .ok (.goto 11, 3) := by decide +kernel
theorem dL_with_15 : decode cL_with 15 = .ok (.astore 5, 2) := by decide +kernel
theorem dL_with_17 : decode cL_with 17 = .ok (.iconst 1, 1) := by decide +kernel
theorem dL_with_18 : decode cL_with 18 = .ok (.ireturn, 1) := by decide +kernel
theorem dL_with_19 : decode cL_with 19 = .ok (.astore 5, 2) := by decide +kernel
theorem dL_with_21 : decode cL_with 21 = .ok (.iconst 2, 1) := by decide +kernel
theorem dL_with_22 : decode cL_with 22 = .ok (.ireturn, 1) := by decide +kernel
theorem dL_with_23 : decode cL_with 23 = .ok (.iconst 0, 1) := by decide +kernel
theorem dL_with_24 : decode cL_with 24 = .ok (.ireturn, 1) := by decide +kernel
theorem dL_hidden_0 : decode cL_hidden 0 = .ok (.aload 5, 2) := by decide +kernel
theorem dL_hidden_2 : decode cL_hidden 2 = .ok (.iconst 0, 1) := by decide +kernel
theorem dL_hidden_3 : decode cL_hidden 3 = .ok (.aload_n 0, 1) := by decide +kernel
theorem dL_hidden_4 : decode cL_hidden 4 = .ok (.iload_n 1, 1) := by decide +kernel
theorem dL_hidden_5 : decode cL_hidden 5 = .ok (.iload_n 2, 1) := by decide +kernel
theorem dL_hidden_6 : decode cL_hidden 6 = .ok (.iload_n 3, 1) := by decide +kernel
theorem dL_hidden_7 : decode cL_hidden 7 = .ok (.iload 4, 2) := by decide +kernel
theorem dL_hidden_9 : decode cL_hidden 9 = .ok (.invokevirtual 88, 3) := by decide +kernel
theorem dL_hidden_12 : decode cL_hidden 12 = .ok (.i2l, 1) := by decide +kernel
theorem dL_hidden_13 : decode cL_hidden 13 = .ok (.lastore, 1) := by decide +kernel
theorem dL_hidden_14 : decode cL_hidden 14 = .ok (.goto 11, 3) := by decide +kernel
theorem dL_hidden_17 : decode cL_hidden 17 = .ok (.astore 6, 2) := by decide +kernel
theorem dL_hidden_19 : decode cL_hidden 19 = .ok (.iconst 1, 1) := by decide +kernel
theorem dL_hidden_20 : decode cL_hidden 20 = .ok (.ireturn, 1) := by decide +kernel
theorem dL_hidden_21 : decode cL_hidden 21 = .ok (.astore 6, 2) := by decide +kernel
theorem dL_hidden_23 : decode cL_hidden 23 = .ok (.iconst 2, 1) := by decide +kernel
theorem dL_hidden_24 : decode cL_hidden 24 = .ok (.ireturn, 1) := by decide +kernel
theorem dL_hidden_25 : decode cL_hidden 25 = .ok (.iconst 0, 1) := by decide +kernel
theorem dL_hidden_26 : decode cL_hidden 26 = .ok (.ireturn, 1) := by decide +kernel
theorem dL_attempt_0 : decode cL_attempt 0 = .ok (.aload 4, 2) := by decide +kernel
theorem dL_attempt_2 : decode cL_attempt 2 = .ok (.iconst 0, 1) := by decide +kernel
theorem dL_attempt_3 : decode cL_attempt 3 = .ok (.aload_n 0, 1) := by decide +kernel
theorem dL_attempt_4 : decode cL_attempt 4 = .ok (.iload_n 1, 1) := by decide +kernel
theorem dL_attempt_5 : decode cL_attempt 5 = .ok (.iload_n 2, 1) := by decide +kernel
theorem dL_attempt_6 : decode cL_attempt 6 = .ok (.iload_n 3, 1) := by decide +kernel
theorem dL_attempt_7 : decode cL_attempt 7 = .ok (.invokevirtual 91, 3) := by decide +kernel
theorem dL_attempt_10 : decode cL_attempt 10 = .ok (.i2l, 1) := by decide +kernel
theorem dL_attempt_11 : decode cL_attempt 11 = .ok (.lastore, 1) := by decide +kernel
theorem dL_attempt_12 : decode cL_attempt 12 = .ok (.goto 11, 3) := by decide +kernel
theorem dL_attempt_15 : decode cL_attempt 15 = .ok (.astore 5, 2) := by decide +kernel
theorem dL_attempt_17 : decode cL_attempt 17 = .ok (.iconst 1, 1) := by decide +kernel
theorem dL_attempt_18 : decode cL_attempt 18 = .ok (.ireturn, 1) := by decide +kernel
theorem dL_attempt_19 : decode cL_attempt 19 = .ok (.astore 5, 2) := by decide +kernel
theorem dL_attempt_21 : decode cL_attempt 21 = .ok (.iconst 2, 1) := by decide +kernel
theorem dL_attempt_22 : decode cL_attempt 22 = .ok (.ireturn, 1) := by decide +kernel
theorem dL_attempt_23 : decode cL_attempt 23 = .ok (.iconst 0, 1) := by decide +kernel
theorem dL_attempt_24 : decode cL_attempt 24 = .ok (.ireturn, 1) := by decide +kernel
theorem dL_more_0 : decode cL_more 0 = .ok (.aload_n 2, 1) := by decide +kernel
theorem dL_more_1 : decode cL_more 1 = .ok (.iconst 0, 1) := by decide +kernel
theorem dL_more_2 : decode cL_more 2 = .ok (.aload_n 0, 1) := by decide +kernel
theorem dL_more_3 : decode cL_more 3 = .ok (.iload_n 1, 1) := by decide +kernel
theorem dL_more_4 : decode cL_more 4 = .ok (.invokevirtual 94, 3) := by decide +kernel
theorem dL_more_7 : decode cL_more 7 = .ok (.lastore, 1) := by decide +kernel
theorem dL_more_8 : decode cL_more 8 = .ok (.goto 6, 3) := by decide +kernel
theorem dL_more_11 : decode cL_more 11 = .ok (.astore_n 3, 1) := by decide +kernel
theorem dL_more_12 : decode cL_more 12 = .ok (.iconst 1, 1) := by decide +kernel
theorem dL_more_13 : decode cL_more 13 = .ok (.ireturn, 1) := by decide +kernel
theorem dL_more_14 : decode cL_more 14 = .ok (.iconst 0, 1) := by decide +kernel
theorem dL_more_15 : decode cL_more 15 = .ok (.ireturn, 1) := by decide +kernel
theorem dL_count_0 : decode cL_count 0 = .ok (.aload_n 2, 1) := by decide +kernel
theorem dL_count_1 : decode cL_count 1 = .ok (.iconst 0, 1) := by decide +kernel
theorem dL_count_2 : decode cL_count 2 = .ok (.aload_n 0, 1) := by decide +kernel
theorem dL_count_3 : decode cL_count 3 = .ok (.iload_n 1, 1) := by decide +kernel
theorem dL_count_4 : decode cL_count 4 = .ok (.invokevirtual 98, 3) := by decide +kernel
theorem dL_count_7 : decode cL_count 7 = .ok (.i2l, 1) := by decide +kernel
theorem dL_count_8 : decode cL_count 8 = .ok (.lastore, 1) := by decide +kernel
theorem dL_count_9 : decode cL_count 9 = .ok (.goto 6, 3) := by decide +kernel
theorem dL_count_12 : decode cL_count 12 = .ok (.astore_n 3, 1) := by decide +kernel
theorem dL_count_13 : decode cL_count 13 = .ok (.iconst 1, 1) := by decide +kernel
theorem dL_count_14 : decode cL_count 14 = .ok (.ireturn, 1) := by decide +kernel
theorem dL_count_15 : decode cL_count 15 = .ok (.iconst 0, 1) := by decide +kernel
theorem dL_count_16 : decode cL_count 16 = .ok (.ireturn, 1) := by decide +kernel
theorem dL_law__0 : decode cL_law_ 0 = .ok (.new 8, 3) := by decide +kernel
theorem dL_law__3 : decode cL_law_ 3 = .ok (.dup, 1) := by decide +kernel
theorem dL_law__4 : decode cL_law_ 4 = .ok (.invokespecial 101, 3) := by decide +kernel
theorem dL_law__7 : decode cL_law_ 7 = .ok (.astore_n 1, 1) := by decide +kernel
theorem dL_law__8 : decode cL_law_ 8 = .ok (.new 102, 3) := by decide +kernel
theorem dL_law__11 : decode cL_law_ 11 = .ok (.dup, 1) := by decide +kernel
theorem dL_law__12 : decode cL_law_ 12 = .ok (.invokespecial 104, 3) := by decide +kernel
theorem dL_law__15 : decode cL_law_ 15 = .ok (.astore_n 2, 1) := by decide +kernel
theorem dL_law__16 : decode cL_law_ 16 = .ok (.iconst 1, 1) := by decide +kernel
theorem dL_law__17 : decode cL_law_ 17 = .ok (.newarray .long, 2) := by decide +kernel
theorem dL_law__19 : decode cL_law_ 19 = .ok (.astore_n 3, 1) := by decide +kernel
theorem dL_law__20 : decode cL_law_ 20 = .ok (.iconst 0, 1) := by decide +kernel
theorem dL_law__21 : decode cL_law_ 21 = .ok (.istore 4, 2) := by decide +kernel
theorem dL_law__23 : decode cL_law_ 23 = .ok (.iload 4, 2) := by decide +kernel
theorem dL_law__25 : decode cL_law_ 25 = .ok (.aload_n 0, 1) := by decide +kernel
theorem dL_law__26 : decode cL_law_ 26 = .ok (.arraylength, 1) := by decide +kernel
theorem dL_law__27 : decode cL_law_ 27 = .ok (.bipush 8, 2) := by decide +kernel
theorem dL_law__29 : decode cL_law_ 29 = .ok (.isub, 1) := by decide +kernel
theorem dL_law__30 : decode cL_law_ 30 = .ok (.if_icmp .gt 2318, 3) := by decide +kernel
theorem dL_law__33 : decode cL_law_ 33 = .ok (.aload_n 0, 1) := by decide +kernel
theorem dL_law__34 : decode cL_law_ 34 = .ok (.iload 4, 2) := by decide +kernel
theorem dL_law__36 : decode cL_law_ 36 = .ok (.iaload, 1) := by decide +kernel
theorem dL_law__37 : decode cL_law_ 37 = .ok (.bipush 31, 2) := by decide +kernel
theorem dL_law__39 : decode cL_law_ 39 = .ok (.iand, 1) := by decide +kernel
theorem dL_law__40 : decode cL_law_ 40 = .ok (.tableswitch 2302 0 27 #[128, 141, 228, 296, 414, 494, 562, 618, 698, 790, 922, 1026, 1117, 1192, 1265, 1345, 1358, 1438, 1530, 1609, 1700, 1779, 1847, 1939, 2019, 2111, 2191, 2246], 128) := by decide +kernel
theorem dL_law__168 : decode cL_law_ 168 = .ok (.aload_n 1, 1) := by decide +kernel
theorem dL_law__169 : decode cL_law_ 169 = .ok (.invokevirtual 105, 3) := by decide +kernel
theorem dL_law__172 : decode cL_law_ 172 = .ok (.aload_n 2, 1) := by decide +kernel
theorem dL_law__173 : decode cL_law_ 173 = .ok (.invokevirtual 109, 3) := by decide +kernel
theorem dL_law__176 : decode cL_law_ 176 = .ok (.if_icmp .eq 2166, 3) := by decide +kernel
theorem dL_law__179 : decode cL_law_ 179 = .ok (.iconst 0, 1) := by decide +kernel
theorem dL_law__180 : decode cL_law_ 180 = .ok (.ireturn, 1) := by decide +kernel
theorem dL_law__181 : decode cL_law_ 181 = .ok (.aload_n 1, 1) := by decide +kernel
theorem dL_law__182 : decode cL_law_ 182 = .ok (.aload_n 0, 1) := by decide +kernel
theorem dL_law__183 : decode cL_law_ 183 = .ok (.iload 4, 2) := by decide +kernel
theorem dL_law__185 : decode cL_law_ 185 = .ok (.iconst 1, 1) := by decide +kernel
theorem dL_law__186 : decode cL_law_ 186 = .ok (.iadd, 1) := by decide +kernel
theorem dL_law__187 : decode cL_law_ 187 = .ok (.iaload, 1) := by decide +kernel
theorem dL_law__188 : decode cL_law_ 188 = .ok (.aload_n 0, 1) := by decide +kernel
theorem dL_law__189 : decode cL_law_ 189 = .ok (.iload 4, 2) := by decide +kernel
theorem dL_law__191 : decode cL_law_ 191 = .ok (.iconst 2, 1) := by decide +kernel
theorem dL_law__192 : decode cL_law_ 192 = .ok (.iadd, 1) := by decide +kernel
theorem dL_law__193 : decode cL_law_ 193 = .ok (.iaload, 1) := by decide +kernel
theorem dL_law__194 : decode cL_law_ 194 = .ok (.aload_n 0, 1) := by decide +kernel
theorem dL_law__195 : decode cL_law_ 195 = .ok (.iload 4, 2) := by decide +kernel
theorem dL_law__197 : decode cL_law_ 197 = .ok (.iconst 3, 1) := by decide +kernel
theorem dL_law__198 : decode cL_law_ 198 = .ok (.iadd, 1) := by decide +kernel
theorem dL_law__199 : decode cL_law_ 199 = .ok (.iaload, 1) := by decide +kernel
theorem dL_law__200 : decode cL_law_ 200 = .ok (.aload_n 3, 1) := by decide +kernel
theorem dL_law__201 : decode cL_law_ 201 = .ok (.invokestatic 110, 3) := by decide +kernel
theorem dL_law__204 : decode cL_law_ 204 = .ok (.istore 5, 2) := by decide +kernel
theorem dL_law__206 : decode cL_law_ 206 = .ok (.aload_n 2, 1) := by decide +kernel
theorem dL_law__207 : decode cL_law_ 207 = .ok (.aload_n 0, 1) := by decide +kernel
theorem dL_law__208 : decode cL_law_ 208 = .ok (.iload 4, 2) := by decide +kernel
theorem dL_law__210 : decode cL_law_ 210 = .ok (.iconst 1, 1) := by decide +kernel
theorem dL_law__211 : decode cL_law_ 211 = .ok (.iadd, 1) := by decide +kernel
theorem dL_law__212 : decode cL_law_ 212 = .ok (.iaload, 1) := by decide +kernel
theorem dL_law__213 : decode cL_law_ 213 = .ok (.aload_n 0, 1) := by decide +kernel
theorem dL_law__214 : decode cL_law_ 214 = .ok (.iload 4, 2) := by decide +kernel
theorem dL_law__216 : decode cL_law_ 216 = .ok (.iconst 2, 1) := by decide +kernel
theorem dL_law__217 : decode cL_law_ 217 = .ok (.iadd, 1) := by decide +kernel
theorem dL_law__218 : decode cL_law_ 218 = .ok (.iaload, 1) := by decide +kernel
theorem dL_law__219 : decode cL_law_ 219 = .ok (.aload_n 0, 1) := by decide +kernel
theorem dL_law__220 : decode cL_law_ 220 = .ok (.iload 4, 2) := by decide +kernel
theorem dL_law__222 : decode cL_law_ 222 = .ok (.iconst 3, 1) := by decide +kernel
theorem dL_law__223 : decode cL_law_ 223 = .ok (.iadd, 1) := by decide +kernel
theorem dL_law__224 : decode cL_law_ 224 = .ok (.iaload, 1) := by decide +kernel
theorem dL_law__225 : decode cL_law_ 225 = .ok (.invokevirtual 115, 3) := by decide +kernel
theorem dL_law__228 : decode cL_law_ 228 = .ok (.istore 6, 2) := by decide +kernel
theorem dL_law__230 : decode cL_law_ 230 = .ok (.aload_n 2, 1) := by decide +kernel
theorem dL_law__231 : decode cL_law_ 231 = .ok (.invokevirtual 116, 3) := by decide +kernel
theorem dL_law__234 : decode cL_law_ 234 = .ok (.iload 5, 2) := by decide +kernel
theorem dL_law__236 : decode cL_law_ 236 = .ok (.if_icmp .eq 5, 3) := by decide +kernel
theorem dL_law__239 : decode cL_law_ 239 = .ok (.iconst 0, 1) := by decide +kernel
theorem dL_law__240 : decode cL_law_ 240 = .ok (.ireturn, 1) := by decide +kernel
theorem dL_law__241 : decode cL_law_ 241 = .ok (.iload 5, 2) := by decide +kernel
theorem dL_law__243 : decode cL_law_ 243 = .ok (.ifCond .ne 22, 3) := by decide +kernel
theorem dL_law__246 : decode cL_law_ 246 = .ok (.aload_n 3, 1) := by decide +kernel
theorem dL_law__247 : decode cL_law_ 247 = .ok (.iconst 0, 1) := by decide +kernel
theorem dL_law__248 : decode cL_law_ 248 = .ok (.laload, 1) := by decide +kernel
theorem dL_law__249 : decode cL_law_ 249 = .ok (.iload 6, 2) := by decide +kernel
theorem dL_law__251 : decode cL_law_ 251 = .ok (.ifCond .eq 7, 3) := by decide +kernel
theorem dL_law__254 : decode cL_law_ 254 = .ok (.lconst 1, 1) := by decide +kernel
theorem dL_law__255 : decode cL_law_ 255 = .ok (.goto 4, 3) := by decide +kernel
theorem dL_law__258 : decode cL_law_ 258 = .ok (.lconst 0, 1) := by decide +kernel
theorem dL_law__259 : decode cL_law_ 259 = .ok (.lcmp, 1) := by decide +kernel
theorem dL_law__260 : decode cL_law_ 260 = .ok (.ifCond .eq 5, 3) := by decide +kernel
theorem dL_law__263 : decode cL_law_ 263 = .ok (.iconst 0, 1) := by decide +kernel
theorem dL_law__264 : decode cL_law_ 264 = .ok (.ireturn, 1) := by decide +kernel
theorem dL_law__265 : decode cL_law_ 265 = .ok (.goto 2077, 3) := by decide +kernel
theorem dL_law__268 : decode cL_law_ 268 = .ok (.aload_n 1, 1) := by decide +kernel
theorem dL_law__269 : decode cL_law_ 269 = .ok (.aload_n 0, 1) := by decide +kernel
theorem dL_law__270 : decode cL_law_ 270 = .ok (.iload 4, 2) := by decide +kernel
theorem dL_law__272 : decode cL_law_ 272 = .ok (.iconst 1, 1) := by decide +kernel
theorem dL_law__273 : decode cL_law_ 273 = .ok (.iadd, 1) := by decide +kernel
theorem dL_law__274 : decode cL_law_ 274 = .ok (.iaload, 1) := by decide +kernel
theorem dL_law__275 : decode cL_law_ 275 = .ok (.aload_n 0, 1) := by decide +kernel
theorem dL_law__276 : decode cL_law_ 276 = .ok (.iload 4, 2) := by decide +kernel
theorem dL_law__278 : decode cL_law_ 278 = .ok (.iconst 2, 1) := by decide +kernel
theorem dL_law__279 : decode cL_law_ 279 = .ok (.iadd, 1) := by decide +kernel
theorem dL_law__280 : decode cL_law_ 280 = .ok (.iaload, 1) := by decide +kernel
theorem dL_law__281 : decode cL_law_ 281 = .ok (.aload_n 3, 1) := by decide +kernel
theorem dL_law__282 : decode cL_law_ 282 = .ok (.invokestatic 119, 3) := by decide +kernel
theorem dL_law__285 : decode cL_law_ 285 = .ok (.istore 5, 2) := by decide +kernel
theorem dL_law__287 : decode cL_law_ 287 = .ok (.aload_n 2, 1) := by decide +kernel
theorem dL_law__288 : decode cL_law_ 288 = .ok (.aload_n 0, 1) := by decide +kernel
theorem dL_law__289 : decode cL_law_ 289 = .ok (.iload 4, 2) := by decide +kernel
theorem dL_law__291 : decode cL_law_ 291 = .ok (.iconst 1, 1) := by decide +kernel
theorem dL_law__292 : decode cL_law_ 292 = .ok (.iadd, 1) := by decide +kernel
theorem dL_law__293 : decode cL_law_ 293 = .ok (.iaload, 1) := by decide +kernel
theorem dL_law__294 : decode cL_law_ 294 = .ok (.aload_n 0, 1) := by decide +kernel
theorem dL_law__295 : decode cL_law_ 295 = .ok (.iload 4, 2) := by decide +kernel
theorem dL_law__297 : decode cL_law_ 297 = .ok (.iconst 2, 1) := by decide +kernel
theorem dL_law__298 : decode cL_law_ 298 = .ok (.iadd, 1) := by decide +kernel
theorem dL_law__299 : decode cL_law_ 299 = .ok (.iaload, 1) := by decide +kernel
theorem dL_law__300 : decode cL_law_ 300 = .ok (.invokevirtual 122, 3) := by decide +kernel
theorem dL_law__303 : decode cL_law_ 303 = .ok (.istore 6, 2) := by decide +kernel
theorem dL_law__305 : decode cL_law_ 305 = .ok (.aload_n 2, 1) := by decide +kernel
theorem dL_law__306 : decode cL_law_ 306 = .ok (.invokevirtual 116, 3) := by decide +kernel
theorem dL_law__309 : decode cL_law_ 309 = .ok (.iload 5, 2) := by decide +kernel
theorem dL_law__311 : decode cL_law_ 311 = .ok (.if_icmp .eq 5, 3) := by decide +kernel
theorem dL_law__314 : decode cL_law_ 314 = .ok (.iconst 0, 1) := by decide +kernel
theorem dL_law__315 : decode cL_law_ 315 = .ok (.ireturn, 1) := by decide +kernel
theorem dL_law__316 : decode cL_law_ 316 = .ok (.iload 5, 2) := by decide +kernel
theorem dL_law__318 : decode cL_law_ 318 = .ok (.ifCond .ne 15, 3) := by decide +kernel
theorem dL_law__321 : decode cL_law_ 321 = .ok (.aload_n 3, 1) := by decide +kernel
theorem dL_law__322 : decode cL_law_ 322 = .ok (.iconst 0, 1) := by decide +kernel
theorem dL_law__323 : decode cL_law_ 323 = .ok (.laload, 1) := by decide +kernel
theorem dL_law__324 : decode cL_law_ 324 = .ok (.iload 6, 2) := by decide +kernel
theorem dL_law__326 : decode cL_law_ 326 = .ok (.i2l, 1) := by decide +kernel
theorem dL_law__327 : decode cL_law_ 327 = .ok (.lcmp, 1) := by decide +kernel
theorem dL_law__328 : decode cL_law_ 328 = .ok (.ifCond .eq 5, 3) := by decide +kernel
theorem dL_law__331 : decode cL_law_ 331 = .ok (.iconst 0, 1) := by decide +kernel
theorem dL_law__332 : decode cL_law_ 332 = .ok (.ireturn, 1) := by decide +kernel
theorem dL_law__333 : decode cL_law_ 333 = .ok (.goto 2009, 3) := by decide +kernel
theorem dL_law__336 : decode cL_law_ 336 = .ok (.aload_n 1, 1) := by decide +kernel
theorem dL_law__337 : decode cL_law_ 337 = .ok (.aload_n 0, 1) := by decide +kernel
theorem dL_law__338 : decode cL_law_ 338 = .ok (.iload 4, 2) := by decide +kernel
theorem dL_law__340 : decode cL_law_ 340 = .ok (.iconst 1, 1) := by decide +kernel
theorem dL_law__341 : decode cL_law_ 341 = .ok (.iadd, 1) := by decide +kernel
theorem dL_law__342 : decode cL_law_ 342 = .ok (.iaload, 1) := by decide +kernel
theorem dL_law__343 : decode cL_law_ 343 = .ok (.aload_n 0, 1) := by decide +kernel
theorem dL_law__344 : decode cL_law_ 344 = .ok (.iload 4, 2) := by decide +kernel
theorem dL_law__346 : decode cL_law_ 346 = .ok (.iconst 2, 1) := by decide +kernel
theorem dL_law__347 : decode cL_law_ 347 = .ok (.iadd, 1) := by decide +kernel
theorem dL_law__348 : decode cL_law_ 348 = .ok (.iaload, 1) := by decide +kernel
theorem dL_law__349 : decode cL_law_ 349 = .ok (.aload_n 0, 1) := by decide +kernel
theorem dL_law__350 : decode cL_law_ 350 = .ok (.iload 4, 2) := by decide +kernel
theorem dL_law__352 : decode cL_law_ 352 = .ok (.iconst 3, 1) := by decide +kernel
theorem dL_law__353 : decode cL_law_ 353 = .ok (.iadd, 1) := by decide +kernel
theorem dL_law__354 : decode cL_law_ 354 = .ok (.iaload, 1) := by decide +kernel
theorem dL_law__355 : decode cL_law_ 355 = .ok (.aload_n 0, 1) := by decide +kernel
theorem dL_law__356 : decode cL_law_ 356 = .ok (.iload 4, 2) := by decide +kernel
theorem dL_law__358 : decode cL_law_ 358 = .ok (.iconst 4, 1) := by decide +kernel
theorem dL_law__359 : decode cL_law_ 359 = .ok (.iadd, 1) := by decide +kernel
theorem dL_law__360 : decode cL_law_ 360 = .ok (.iaload, 1) := by decide +kernel
theorem dL_law__361 : decode cL_law_ 361 = .ok (.aload_n 0, 1) := by decide +kernel
theorem dL_law__362 : decode cL_law_ 362 = .ok (.iload 4, 2) := by decide +kernel
theorem dL_law__364 : decode cL_law_ 364 = .ok (.iconst 5, 1) := by decide +kernel
theorem dL_law__365 : decode cL_law_ 365 = .ok (.iadd, 1) := by decide +kernel
theorem dL_law__366 : decode cL_law_ 366 = .ok (.iaload, 1) := by decide +kernel
theorem dL_law__367 : decode cL_law_ 367 = .ok (.aload_n 0, 1) := by decide +kernel
theorem dL_law__368 : decode cL_law_ 368 = .ok (.iload 4, 2) := by decide +kernel
theorem dL_law__370 : decode cL_law_ 370 = .ok (.bipush 6, 2) := by decide +kernel
theorem dL_law__372 : decode cL_law_ 372 = .ok (.iadd, 1) := by decide +kernel
theorem dL_law__373 : decode cL_law_ 373 = .ok (.iaload, 1) := by decide +kernel
theorem dL_law__374 : decode cL_law_ 374 = .ok (.aload_n 3, 1) := by decide +kernel
theorem dL_law__375 : decode cL_law_ 375 = .ok (.invokestatic 123, 3) := by decide +kernel
theorem dL_law__378 : decode cL_law_ 378 = .ok (.istore 5, 2) := by decide +kernel
theorem dL_law__380 : decode cL_law_ 380 = .ok (.aload_n 2, 1) := by decide +kernel
theorem dL_law__381 : decode cL_law_ 381 = .ok (.aload_n 0, 1) := by decide +kernel
theorem dL_law__382 : decode cL_law_ 382 = .ok (.iload 4, 2) := by decide +kernel
theorem dL_law__384 : decode cL_law_ 384 = .ok (.iconst 1, 1) := by decide +kernel
theorem dL_law__385 : decode cL_law_ 385 = .ok (.iadd, 1) := by decide +kernel
theorem dL_law__386 : decode cL_law_ 386 = .ok (.iaload, 1) := by decide +kernel
theorem dL_law__387 : decode cL_law_ 387 = .ok (.aload_n 0, 1) := by decide +kernel
theorem dL_law__388 : decode cL_law_ 388 = .ok (.iload 4, 2) := by decide +kernel
theorem dL_law__390 : decode cL_law_ 390 = .ok (.iconst 2, 1) := by decide +kernel
theorem dL_law__391 : decode cL_law_ 391 = .ok (.iadd, 1) := by decide +kernel
theorem dL_law__392 : decode cL_law_ 392 = .ok (.iaload, 1) := by decide +kernel
theorem dL_law__393 : decode cL_law_ 393 = .ok (.aload_n 0, 1) := by decide +kernel
theorem dL_law__394 : decode cL_law_ 394 = .ok (.iload 4, 2) := by decide +kernel
theorem dL_law__396 : decode cL_law_ 396 = .ok (.iconst 3, 1) := by decide +kernel
theorem dL_law__397 : decode cL_law_ 397 = .ok (.iadd, 1) := by decide +kernel
theorem dL_law__398 : decode cL_law_ 398 = .ok (.iaload, 1) := by decide +kernel
theorem dL_law__399 : decode cL_law_ 399 = .ok (.aload_n 0, 1) := by decide +kernel
theorem dL_law__400 : decode cL_law_ 400 = .ok (.iload 4, 2) := by decide +kernel
theorem dL_law__402 : decode cL_law_ 402 = .ok (.iconst 4, 1) := by decide +kernel
theorem dL_law__403 : decode cL_law_ 403 = .ok (.iadd, 1) := by decide +kernel
theorem dL_law__404 : decode cL_law_ 404 = .ok (.iaload, 1) := by decide +kernel
theorem dL_law__405 : decode cL_law_ 405 = .ok (.aload_n 0, 1) := by decide +kernel
theorem dL_law__406 : decode cL_law_ 406 = .ok (.iload 4, 2) := by decide +kernel
theorem dL_law__408 : decode cL_law_ 408 = .ok (.iconst 5, 1) := by decide +kernel
theorem dL_law__409 : decode cL_law_ 409 = .ok (.iadd, 1) := by decide +kernel
theorem dL_law__410 : decode cL_law_ 410 = .ok (.iaload, 1) := by decide +kernel
theorem dL_law__411 : decode cL_law_ 411 = .ok (.aload_n 0, 1) := by decide +kernel
theorem dL_law__412 : decode cL_law_ 412 = .ok (.iload 4, 2) := by decide +kernel
theorem dL_law__414 : decode cL_law_ 414 = .ok (.bipush 6, 2) := by decide +kernel
theorem dL_law__416 : decode cL_law_ 416 = .ok (.iadd, 1) := by decide +kernel
theorem dL_law__417 : decode cL_law_ 417 = .ok (.iaload, 1) := by decide +kernel
theorem dL_law__418 : decode cL_law_ 418 = .ok (.invokevirtual 126, 3) := by decide +kernel
theorem dL_law__421 : decode cL_law_ 421 = .ok (.istore 6, 2) := by decide +kernel
theorem dL_law__423 : decode cL_law_ 423 = .ok (.aload_n 2, 1) := by decide +kernel
theorem dL_law__424 : decode cL_law_ 424 = .ok (.invokevirtual 116, 3) := by decide +kernel
theorem dL_law__427 : decode cL_law_ 427 = .ok (.iload 5, 2) := by decide +kernel
theorem dL_law__429 : decode cL_law_ 429 = .ok (.if_icmp .eq 5, 3) := by decide +kernel
theorem dL_law__432 : decode cL_law_ 432 = .ok (.iconst 0, 1) := by decide +kernel
theorem dL_law__433 : decode cL_law_ 433 = .ok (.ireturn, 1) := by decide +kernel
theorem dL_law__434 : decode cL_law_ 434 = .ok (.iload 5, 2) := by decide +kernel
theorem dL_law__436 : decode cL_law_ 436 = .ok (.ifCond .ne 15, 3) := by decide +kernel
theorem dL_law__439 : decode cL_law_ 439 = .ok (.aload_n 3, 1) := by decide +kernel
theorem dL_law__440 : decode cL_law_ 440 = .ok (.iconst 0, 1) := by decide +kernel
theorem dL_law__441 : decode cL_law_ 441 = .ok (.laload, 1) := by decide +kernel
theorem dL_law__442 : decode cL_law_ 442 = .ok (.iload 6, 2) := by decide +kernel
theorem dL_law__444 : decode cL_law_ 444 = .ok (.i2l, 1) := by decide +kernel
theorem dL_law__445 : decode cL_law_ 445 = .ok (.lcmp, 1) := by decide +kernel
theorem dL_law__446 : decode cL_law_ 446 = .ok (.ifCond .eq 5, 3) := by decide +kernel
theorem dL_law__449 : decode cL_law_ 449 = .ok (.iconst 0, 1) := by decide +kernel
theorem dL_law__450 : decode cL_law_ 450 = .ok (.ireturn, 1) := by decide +kernel
theorem dL_law__451 : decode cL_law_ 451 = .ok (.goto 1891, 3) := by decide +kernel
theorem dL_law__454 : decode cL_law_ 454 = .ok (.aload_n 1, 1) := by decide +kernel
theorem dL_law__455 : decode cL_law_ 455 = .ok (.aload_n 0, 1) := by decide +kernel
theorem dL_law__456 : decode cL_law_ 456 = .ok (.iload 4, 2) := by decide +kernel
theorem dL_law__458 : decode cL_law_ 458 = .ok (.iconst 1, 1) := by decide +kernel
theorem dL_law__459 : decode cL_law_ 459 = .ok (.iadd, 1) := by decide +kernel
theorem dL_law__460 : decode cL_law_ 460 = .ok (.iaload, 1) := by decide +kernel
theorem dL_law__461 : decode cL_law_ 461 = .ok (.aload_n 0, 1) := by decide +kernel
theorem dL_law__462 : decode cL_law_ 462 = .ok (.iload 4, 2) := by decide +kernel
theorem dL_law__464 : decode cL_law_ 464 = .ok (.iconst 2, 1) := by decide +kernel
theorem dL_law__465 : decode cL_law_ 465 = .ok (.iadd, 1) := by decide +kernel
theorem dL_law__466 : decode cL_law_ 466 = .ok (.iaload, 1) := by decide +kernel
theorem dL_law__467 : decode cL_law_ 467 = .ok (.aload_n 0, 1) := by decide +kernel
theorem dL_law__468 : decode cL_law_ 468 = .ok (.iload 4, 2) := by decide +kernel
theorem dL_law__470 : decode cL_law_ 470 = .ok (.iconst 3, 1) := by decide +kernel
theorem dL_law__471 : decode cL_law_ 471 = .ok (.iadd, 1) := by decide +kernel
theorem dL_law__472 : decode cL_law_ 472 = .ok (.iaload, 1) := by decide +kernel
theorem dL_law__473 : decode cL_law_ 473 = .ok (.aload_n 3, 1) := by decide +kernel
theorem dL_law__474 : decode cL_law_ 474 = .ok (.invokestatic 127, 3) := by decide +kernel
theorem dL_law__477 : decode cL_law_ 477 = .ok (.istore 5, 2) := by decide +kernel
theorem dL_law__479 : decode cL_law_ 479 = .ok (.aload_n 2, 1) := by decide +kernel
theorem dL_law__480 : decode cL_law_ 480 = .ok (.aload_n 0, 1) := by decide +kernel
theorem dL_law__481 : decode cL_law_ 481 = .ok (.iload 4, 2) := by decide +kernel
theorem dL_law__483 : decode cL_law_ 483 = .ok (.iconst 1, 1) := by decide +kernel
theorem dL_law__484 : decode cL_law_ 484 = .ok (.iadd, 1) := by decide +kernel
theorem dL_law__485 : decode cL_law_ 485 = .ok (.iaload, 1) := by decide +kernel
theorem dL_law__486 : decode cL_law_ 486 = .ok (.aload_n 0, 1) := by decide +kernel
theorem dL_law__487 : decode cL_law_ 487 = .ok (.iload 4, 2) := by decide +kernel
theorem dL_law__489 : decode cL_law_ 489 = .ok (.iconst 2, 1) := by decide +kernel
theorem dL_law__490 : decode cL_law_ 490 = .ok (.iadd, 1) := by decide +kernel
theorem dL_law__491 : decode cL_law_ 491 = .ok (.iaload, 1) := by decide +kernel
theorem dL_law__492 : decode cL_law_ 492 = .ok (.aload_n 0, 1) := by decide +kernel
theorem dL_law__493 : decode cL_law_ 493 = .ok (.iload 4, 2) := by decide +kernel
theorem dL_law__495 : decode cL_law_ 495 = .ok (.iconst 3, 1) := by decide +kernel
theorem dL_law__496 : decode cL_law_ 496 = .ok (.iadd, 1) := by decide +kernel
theorem dL_law__497 : decode cL_law_ 497 = .ok (.iaload, 1) := by decide +kernel
theorem dL_law__498 : decode cL_law_ 498 = .ok (.invokevirtual 129, 3) := by decide +kernel
theorem dL_law__501 : decode cL_law_ 501 = .ok (.istore 6, 2) := by decide +kernel
theorem dL_law__503 : decode cL_law_ 503 = .ok (.aload_n 2, 1) := by decide +kernel
theorem dL_law__504 : decode cL_law_ 504 = .ok (.invokevirtual 116, 3) := by decide +kernel
theorem dL_law__507 : decode cL_law_ 507 = .ok (.iload 5, 2) := by decide +kernel
theorem dL_law__509 : decode cL_law_ 509 = .ok (.if_icmp .eq 5, 3) := by decide +kernel
theorem dL_law__512 : decode cL_law_ 512 = .ok (.iconst 0, 1) := by decide +kernel
theorem dL_law__513 : decode cL_law_ 513 = .ok (.ireturn, 1) := by decide +kernel
theorem dL_law__514 : decode cL_law_ 514 = .ok (.iload 5, 2) := by decide +kernel
theorem dL_law__516 : decode cL_law_ 516 = .ok (.ifCond .ne 15, 3) := by decide +kernel
theorem dL_law__519 : decode cL_law_ 519 = .ok (.aload_n 3, 1) := by decide +kernel
theorem dL_law__520 : decode cL_law_ 520 = .ok (.iconst 0, 1) := by decide +kernel
theorem dL_law__521 : decode cL_law_ 521 = .ok (.laload, 1) := by decide +kernel
theorem dL_law__522 : decode cL_law_ 522 = .ok (.iload 6, 2) := by decide +kernel
theorem dL_law__524 : decode cL_law_ 524 = .ok (.i2l, 1) := by decide +kernel
theorem dL_law__525 : decode cL_law_ 525 = .ok (.lcmp, 1) := by decide +kernel
theorem dL_law__526 : decode cL_law_ 526 = .ok (.ifCond .eq 5, 3) := by decide +kernel
theorem dL_law__529 : decode cL_law_ 529 = .ok (.iconst 0, 1) := by decide +kernel
theorem dL_law__530 : decode cL_law_ 530 = .ok (.ireturn, 1) := by decide +kernel
theorem dL_law__531 : decode cL_law_ 531 = .ok (.goto 1811, 3) := by decide +kernel
theorem dL_law__534 : decode cL_law_ 534 = .ok (.aload_n 1, 1) := by decide +kernel
theorem dL_law__535 : decode cL_law_ 535 = .ok (.aload_n 0, 1) := by decide +kernel
theorem dL_law__536 : decode cL_law_ 536 = .ok (.iload 4, 2) := by decide +kernel
theorem dL_law__538 : decode cL_law_ 538 = .ok (.iconst 1, 1) := by decide +kernel
theorem dL_law__539 : decode cL_law_ 539 = .ok (.iadd, 1) := by decide +kernel
theorem dL_law__540 : decode cL_law_ 540 = .ok (.iaload, 1) := by decide +kernel
theorem dL_law__541 : decode cL_law_ 541 = .ok (.aload_n 0, 1) := by decide +kernel
theorem dL_law__542 : decode cL_law_ 542 = .ok (.iload 4, 2) := by decide +kernel
theorem dL_law__544 : decode cL_law_ 544 = .ok (.iconst 2, 1) := by decide +kernel
theorem dL_law__545 : decode cL_law_ 545 = .ok (.iadd, 1) := by decide +kernel
theorem dL_law__546 : decode cL_law_ 546 = .ok (.iaload, 1) := by decide +kernel
theorem dL_law__547 : decode cL_law_ 547 = .ok (.aload_n 3, 1) := by decide +kernel
theorem dL_law__548 : decode cL_law_ 548 = .ok (.invokestatic 130, 3) := by decide +kernel
theorem dL_law__551 : decode cL_law_ 551 = .ok (.istore 5, 2) := by decide +kernel
theorem dL_law__553 : decode cL_law_ 553 = .ok (.aload_n 2, 1) := by decide +kernel
theorem dL_law__554 : decode cL_law_ 554 = .ok (.aload_n 0, 1) := by decide +kernel
theorem dL_law__555 : decode cL_law_ 555 = .ok (.iload 4, 2) := by decide +kernel
theorem dL_law__557 : decode cL_law_ 557 = .ok (.iconst 1, 1) := by decide +kernel
theorem dL_law__558 : decode cL_law_ 558 = .ok (.iadd, 1) := by decide +kernel
theorem dL_law__559 : decode cL_law_ 559 = .ok (.iaload, 1) := by decide +kernel
theorem dL_law__560 : decode cL_law_ 560 = .ok (.aload_n 0, 1) := by decide +kernel
theorem dL_law__561 : decode cL_law_ 561 = .ok (.iload 4, 2) := by decide +kernel
theorem dL_law__563 : decode cL_law_ 563 = .ok (.iconst 2, 1) := by decide +kernel
theorem dL_law__564 : decode cL_law_ 564 = .ok (.iadd, 1) := by decide +kernel
theorem dL_law__565 : decode cL_law_ 565 = .ok (.iaload, 1) := by decide +kernel
theorem dL_law__566 : decode cL_law_ 566 = .ok (.invokevirtual 132, 3) := by decide +kernel
theorem dL_law__569 : decode cL_law_ 569 = .ok (.istore 6, 2) := by decide +kernel
theorem dL_law__571 : decode cL_law_ 571 = .ok (.aload_n 2, 1) := by decide +kernel
theorem dL_law__572 : decode cL_law_ 572 = .ok (.invokevirtual 116, 3) := by decide +kernel
theorem dL_law__575 : decode cL_law_ 575 = .ok (.iload 5, 2) := by decide +kernel
theorem dL_law__577 : decode cL_law_ 577 = .ok (.if_icmp .eq 5, 3) := by decide +kernel
theorem dL_law__580 : decode cL_law_ 580 = .ok (.iconst 0, 1) := by decide +kernel
theorem dL_law__581 : decode cL_law_ 581 = .ok (.ireturn, 1) := by decide +kernel
theorem dL_law__582 : decode cL_law_ 582 = .ok (.iload 5, 2) := by decide +kernel
theorem dL_law__584 : decode cL_law_ 584 = .ok (.ifCond .ne 15, 3) := by decide +kernel
theorem dL_law__587 : decode cL_law_ 587 = .ok (.aload_n 3, 1) := by decide +kernel
theorem dL_law__588 : decode cL_law_ 588 = .ok (.iconst 0, 1) := by decide +kernel
theorem dL_law__589 : decode cL_law_ 589 = .ok (.laload, 1) := by decide +kernel
theorem dL_law__590 : decode cL_law_ 590 = .ok (.iload 6, 2) := by decide +kernel
theorem dL_law__592 : decode cL_law_ 592 = .ok (.i2l, 1) := by decide +kernel
theorem dL_law__593 : decode cL_law_ 593 = .ok (.lcmp, 1) := by decide +kernel
theorem dL_law__594 : decode cL_law_ 594 = .ok (.ifCond .eq 5, 3) := by decide +kernel
theorem dL_law__597 : decode cL_law_ 597 = .ok (.iconst 0, 1) := by decide +kernel
theorem dL_law__598 : decode cL_law_ 598 = .ok (.ireturn, 1) := by decide +kernel
theorem dL_law__599 : decode cL_law_ 599 = .ok (.goto 1743, 3) := by decide +kernel
theorem dL_law__602 : decode cL_law_ 602 = .ok (.aload_n 1, 1) := by decide +kernel
theorem dL_law__603 : decode cL_law_ 603 = .ok (.aload_n 0, 1) := by decide +kernel
theorem dL_law__604 : decode cL_law_ 604 = .ok (.iload 4, 2) := by decide +kernel
theorem dL_law__606 : decode cL_law_ 606 = .ok (.iconst 1, 1) := by decide +kernel
theorem dL_law__607 : decode cL_law_ 607 = .ok (.iadd, 1) := by decide +kernel
theorem dL_law__608 : decode cL_law_ 608 = .ok (.iaload, 1) := by decide +kernel
theorem dL_law__609 : decode cL_law_ 609 = .ok (.aload_n 3, 1) := by decide +kernel
theorem dL_law__610 : decode cL_law_ 610 = .ok (.invokestatic 133, 3) := by decide +kernel
theorem dL_law__613 : decode cL_law_ 613 = .ok (.istore 5, 2) := by decide +kernel
theorem dL_law__615 : decode cL_law_ 615 = .ok (.aload_n 2, 1) := by decide +kernel
theorem dL_law__616 : decode cL_law_ 616 = .ok (.aload_n 0, 1) := by decide +kernel
theorem dL_law__617 : decode cL_law_ 617 = .ok (.iload 4, 2) := by decide +kernel
theorem dL_law__619 : decode cL_law_ 619 = .ok (.iconst 1, 1) := by decide +kernel
theorem dL_law__620 : decode cL_law_ 620 = .ok (.iadd, 1) := by decide +kernel
theorem dL_law__621 : decode cL_law_ 621 = .ok (.iaload, 1) := by decide +kernel
theorem dL_law__622 : decode cL_law_ 622 = .ok (.invokevirtual 136, 3) := by decide +kernel
theorem dL_law__625 : decode cL_law_ 625 = .ok (.istore 6, 2) := by decide +kernel
theorem dL_law__627 : decode cL_law_ 627 = .ok (.aload_n 2, 1) := by decide +kernel
theorem dL_law__628 : decode cL_law_ 628 = .ok (.invokevirtual 116, 3) := by decide +kernel
theorem dL_law__631 : decode cL_law_ 631 = .ok (.iload 5, 2) := by decide +kernel
theorem dL_law__633 : decode cL_law_ 633 = .ok (.if_icmp .eq 5, 3) := by decide +kernel
theorem dL_law__636 : decode cL_law_ 636 = .ok (.iconst 0, 1) := by decide +kernel
theorem dL_law__637 : decode cL_law_ 637 = .ok (.ireturn, 1) := by decide +kernel
theorem dL_law__638 : decode cL_law_ 638 = .ok (.iload 5, 2) := by decide +kernel
theorem dL_law__640 : decode cL_law_ 640 = .ok (.ifCond .ne 15, 3) := by decide +kernel
theorem dL_law__643 : decode cL_law_ 643 = .ok (.aload_n 3, 1) := by decide +kernel
theorem dL_law__644 : decode cL_law_ 644 = .ok (.iconst 0, 1) := by decide +kernel
theorem dL_law__645 : decode cL_law_ 645 = .ok (.laload, 1) := by decide +kernel
theorem dL_law__646 : decode cL_law_ 646 = .ok (.iload 6, 2) := by decide +kernel
theorem dL_law__648 : decode cL_law_ 648 = .ok (.i2l, 1) := by decide +kernel
theorem dL_law__649 : decode cL_law_ 649 = .ok (.lcmp, 1) := by decide +kernel
theorem dL_law__650 : decode cL_law_ 650 = .ok (.ifCond .eq 5, 3) := by decide +kernel
theorem dL_law__653 : decode cL_law_ 653 = .ok (.iconst 0, 1) := by decide +kernel
theorem dL_law__654 : decode cL_law_ 654 = .ok (.ireturn, 1) := by decide +kernel
theorem dL_law__655 : decode cL_law_ 655 = .ok (.goto 1687, 3) := by decide +kernel
theorem dL_law__658 : decode cL_law_ 658 = .ok (.aload_n 1, 1) := by decide +kernel
theorem dL_law__659 : decode cL_law_ 659 = .ok (.aload_n 0, 1) := by decide +kernel
theorem dL_law__660 : decode cL_law_ 660 = .ok (.iload 4, 2) := by decide +kernel
theorem dL_law__662 : decode cL_law_ 662 = .ok (.iconst 1, 1) := by decide +kernel
theorem dL_law__663 : decode cL_law_ 663 = .ok (.iadd, 1) := by decide +kernel
theorem dL_law__664 : decode cL_law_ 664 = .ok (.iaload, 1) := by decide +kernel
theorem dL_law__665 : decode cL_law_ 665 = .ok (.aload_n 0, 1) := by decide +kernel
theorem dL_law__666 : decode cL_law_ 666 = .ok (.iload 4, 2) := by decide +kernel
theorem dL_law__668 : decode cL_law_ 668 = .ok (.iconst 2, 1) := by decide +kernel
theorem dL_law__669 : decode cL_law_ 669 = .ok (.iadd, 1) := by decide +kernel
theorem dL_law__670 : decode cL_law_ 670 = .ok (.iaload, 1) := by decide +kernel
theorem dL_law__671 : decode cL_law_ 671 = .ok (.aload_n 0, 1) := by decide +kernel
theorem dL_law__672 : decode cL_law_ 672 = .ok (.iload 4, 2) := by decide +kernel
theorem dL_law__674 : decode cL_law_ 674 = .ok (.iconst 3, 1) := by decide +kernel
theorem dL_law__675 : decode cL_law_ 675 = .ok (.iadd, 1) := by decide +kernel
theorem dL_law__676 : decode cL_law_ 676 = .ok (.iaload, 1) := by decide +kernel
theorem dL_law__677 : decode cL_law_ 677 = .ok (.aload_n 3, 1) := by decide +kernel
theorem dL_law__678 : decode cL_law_ 678 = .ok (.invokestatic 137, 3) := by decide +kernel
theorem dL_law__681 : decode cL_law_ 681 = .ok (.istore 5, 2) := by decide +kernel
theorem dL_law__683 : decode cL_law_ 683 = .ok (.aload_n 2, 1) := by decide +kernel
theorem dL_law__684 : decode cL_law_ 684 = .ok (.aload_n 0, 1) := by decide +kernel
theorem dL_law__685 : decode cL_law_ 685 = .ok (.iload 4, 2) := by decide +kernel
theorem dL_law__687 : decode cL_law_ 687 = .ok (.iconst 1, 1) := by decide +kernel
theorem dL_law__688 : decode cL_law_ 688 = .ok (.iadd, 1) := by decide +kernel
theorem dL_law__689 : decode cL_law_ 689 = .ok (.iaload, 1) := by decide +kernel
theorem dL_law__690 : decode cL_law_ 690 = .ok (.aload_n 0, 1) := by decide +kernel
theorem dL_law__691 : decode cL_law_ 691 = .ok (.iload 4, 2) := by decide +kernel
theorem dL_law__693 : decode cL_law_ 693 = .ok (.iconst 2, 1) := by decide +kernel
theorem dL_law__694 : decode cL_law_ 694 = .ok (.iadd, 1) := by decide +kernel
theorem dL_law__695 : decode cL_law_ 695 = .ok (.iaload, 1) := by decide +kernel
theorem dL_law__696 : decode cL_law_ 696 = .ok (.aload_n 0, 1) := by decide +kernel
theorem dL_law__697 : decode cL_law_ 697 = .ok (.iload 4, 2) := by decide +kernel
theorem dL_law__699 : decode cL_law_ 699 = .ok (.iconst 3, 1) := by decide +kernel
theorem dL_law__700 : decode cL_law_ 700 = .ok (.iadd, 1) := by decide +kernel
theorem dL_law__701 : decode cL_law_ 701 = .ok (.iaload, 1) := by decide +kernel
theorem dL_law__702 : decode cL_law_ 702 = .ok (.invokevirtual 139, 3) := by decide +kernel
theorem dL_law__705 : decode cL_law_ 705 = .ok (.istore 6, 2) := by decide +kernel
theorem dL_law__707 : decode cL_law_ 707 = .ok (.aload_n 2, 1) := by decide +kernel
theorem dL_law__708 : decode cL_law_ 708 = .ok (.invokevirtual 116, 3) := by decide +kernel
theorem dL_law__711 : decode cL_law_ 711 = .ok (.iload 5, 2) := by decide +kernel
theorem dL_law__713 : decode cL_law_ 713 = .ok (.if_icmp .eq 5, 3) := by decide +kernel
theorem dL_law__716 : decode cL_law_ 716 = .ok (.iconst 0, 1) := by decide +kernel
theorem dL_law__717 : decode cL_law_ 717 = .ok (.ireturn, 1) := by decide +kernel
theorem dL_law__718 : decode cL_law_ 718 = .ok (.iload 5, 2) := by decide +kernel
theorem dL_law__720 : decode cL_law_ 720 = .ok (.ifCond .ne 15, 3) := by decide +kernel
theorem dL_law__723 : decode cL_law_ 723 = .ok (.aload_n 3, 1) := by decide +kernel
theorem dL_law__724 : decode cL_law_ 724 = .ok (.iconst 0, 1) := by decide +kernel
theorem dL_law__725 : decode cL_law_ 725 = .ok (.laload, 1) := by decide +kernel
theorem dL_law__726 : decode cL_law_ 726 = .ok (.iload 6, 2) := by decide +kernel
theorem dL_law__728 : decode cL_law_ 728 = .ok (.i2l, 1) := by decide +kernel
theorem dL_law__729 : decode cL_law_ 729 = .ok (.lcmp, 1) := by decide +kernel
theorem dL_law__730 : decode cL_law_ 730 = .ok (.ifCond .eq 5, 3) := by decide +kernel
theorem dL_law__733 : decode cL_law_ 733 = .ok (.iconst 0, 1) := by decide +kernel
theorem dL_law__734 : decode cL_law_ 734 = .ok (.ireturn, 1) := by decide +kernel
theorem dL_law__735 : decode cL_law_ 735 = .ok (.goto 1607, 3) := by decide +kernel
theorem dL_law__738 : decode cL_law_ 738 = .ok (.aload_n 1, 1) := by decide +kernel
theorem dL_law__739 : decode cL_law_ 739 = .ok (.aload_n 0, 1) := by decide +kernel
theorem dL_law__740 : decode cL_law_ 740 = .ok (.iload 4, 2) := by decide +kernel
theorem dL_law__742 : decode cL_law_ 742 = .ok (.iconst 1, 1) := by decide +kernel
theorem dL_law__743 : decode cL_law_ 743 = .ok (.iadd, 1) := by decide +kernel
theorem dL_law__744 : decode cL_law_ 744 = .ok (.iaload, 1) := by decide +kernel
theorem dL_law__745 : decode cL_law_ 745 = .ok (.aload_n 0, 1) := by decide +kernel
theorem dL_law__746 : decode cL_law_ 746 = .ok (.iload 4, 2) := by decide +kernel
theorem dL_law__748 : decode cL_law_ 748 = .ok (.iconst 2, 1) := by decide +kernel
theorem dL_law__749 : decode cL_law_ 749 = .ok (.iadd, 1) := by decide +kernel
theorem dL_law__750 : decode cL_law_ 750 = .ok (.iaload, 1) := by decide +kernel
theorem dL_law__751 : decode cL_law_ 751 = .ok (.aload_n 0, 1) := by decide +kernel
theorem dL_law__752 : decode cL_law_ 752 = .ok (.iload 4, 2) := by decide +kernel
theorem dL_law__754 : decode cL_law_ 754 = .ok (.iconst 3, 1) := by decide +kernel
theorem dL_law__755 : decode cL_law_ 755 = .ok (.iadd, 1) := by decide +kernel
theorem dL_law__756 : decode cL_law_ 756 = .ok (.iaload, 1) := by decide +kernel
theorem dL_law__757 : decode cL_law_ 757 = .ok (.aload_n 0, 1) := by decide +kernel
theorem dL_law__758 : decode cL_law_ 758 = .ok (.iload 4, 2) := by decide +kernel
theorem dL_law__760 : decode cL_law_ 760 = .ok (.iconst 4, 1) := by decide +kernel
theorem dL_law__761 : decode cL_law_ 761 = .ok (.iadd, 1) := by decide +kernel
theorem dL_law__762 : decode cL_law_ 762 = .ok (.iaload, 1) := by decide +kernel
theorem dL_law__763 : decode cL_law_ 763 = .ok (.aload_n 3, 1) := by decide +kernel
theorem dL_law__764 : decode cL_law_ 764 = .ok (.invokestatic 140, 3) := by decide +kernel
theorem dL_law__767 : decode cL_law_ 767 = .ok (.istore 5, 2) := by decide +kernel
theorem dL_law__769 : decode cL_law_ 769 = .ok (.aload_n 2, 1) := by decide +kernel
theorem dL_law__770 : decode cL_law_ 770 = .ok (.aload_n 0, 1) := by decide +kernel
theorem dL_law__771 : decode cL_law_ 771 = .ok (.iload 4, 2) := by decide +kernel
theorem dL_law__773 : decode cL_law_ 773 = .ok (.iconst 1, 1) := by decide +kernel
theorem dL_law__774 : decode cL_law_ 774 = .ok (.iadd, 1) := by decide +kernel
theorem dL_law__775 : decode cL_law_ 775 = .ok (.iaload, 1) := by decide +kernel
theorem dL_law__776 : decode cL_law_ 776 = .ok (.aload_n 0, 1) := by decide +kernel
theorem dL_law__777 : decode cL_law_ 777 = .ok (.iload 4, 2) := by decide +kernel
theorem dL_law__779 : decode cL_law_ 779 = .ok (.iconst 2, 1) := by decide +kernel
theorem dL_law__780 : decode cL_law_ 780 = .ok (.iadd, 1) := by decide +kernel
theorem dL_law__781 : decode cL_law_ 781 = .ok (.iaload, 1) := by decide +kernel
theorem dL_law__782 : decode cL_law_ 782 = .ok (.aload_n 0, 1) := by decide +kernel
theorem dL_law__783 : decode cL_law_ 783 = .ok (.iload 4, 2) := by decide +kernel
theorem dL_law__785 : decode cL_law_ 785 = .ok (.iconst 3, 1) := by decide +kernel
theorem dL_law__786 : decode cL_law_ 786 = .ok (.iadd, 1) := by decide +kernel
theorem dL_law__787 : decode cL_law_ 787 = .ok (.iaload, 1) := by decide +kernel
theorem dL_law__788 : decode cL_law_ 788 = .ok (.aload_n 0, 1) := by decide +kernel
theorem dL_law__789 : decode cL_law_ 789 = .ok (.iload 4, 2) := by decide +kernel
theorem dL_law__791 : decode cL_law_ 791 = .ok (.iconst 4, 1) := by decide +kernel
theorem dL_law__792 : decode cL_law_ 792 = .ok (.iadd, 1) := by decide +kernel
theorem dL_law__793 : decode cL_law_ 793 = .ok (.iaload, 1) := by decide +kernel
theorem dL_law__794 : decode cL_law_ 794 = .ok (.invokevirtual 143, 3) := by decide +kernel
theorem dL_law__797 : decode cL_law_ 797 = .ok (.istore 6, 2) := by decide +kernel
theorem dL_law__799 : decode cL_law_ 799 = .ok (.aload_n 2, 1) := by decide +kernel
theorem dL_law__800 : decode cL_law_ 800 = .ok (.invokevirtual 116, 3) := by decide +kernel
theorem dL_law__803 : decode cL_law_ 803 = .ok (.iload 5, 2) := by decide +kernel
theorem dL_law__805 : decode cL_law_ 805 = .ok (.if_icmp .eq 5, 3) := by decide +kernel
theorem dL_law__808 : decode cL_law_ 808 = .ok (.iconst 0, 1) := by decide +kernel
theorem dL_law__809 : decode cL_law_ 809 = .ok (.ireturn, 1) := by decide +kernel
theorem dL_law__810 : decode cL_law_ 810 = .ok (.iload 5, 2) := by decide +kernel
theorem dL_law__812 : decode cL_law_ 812 = .ok (.ifCond .ne 15, 3) := by decide +kernel
theorem dL_law__815 : decode cL_law_ 815 = .ok (.aload_n 3, 1) := by decide +kernel
theorem dL_law__816 : decode cL_law_ 816 = .ok (.iconst 0, 1) := by decide +kernel
theorem dL_law__817 : decode cL_law_ 817 = .ok (.laload, 1) := by decide +kernel
theorem dL_law__818 : decode cL_law_ 818 = .ok (.iload 6, 2) := by decide +kernel
theorem dL_law__820 : decode cL_law_ 820 = .ok (.i2l, 1) := by decide +kernel
theorem dL_law__821 : decode cL_law_ 821 = .ok (.lcmp, 1) := by decide +kernel
theorem dL_law__822 : decode cL_law_ 822 = .ok (.ifCond .eq 5, 3) := by decide +kernel
theorem dL_law__825 : decode cL_law_ 825 = .ok (.iconst 0, 1) := by decide +kernel
theorem dL_law__826 : decode cL_law_ 826 = .ok (.ireturn, 1) := by decide +kernel
theorem dL_law__827 : decode cL_law_ 827 = .ok (.goto 1515, 3) := by decide +kernel
theorem dL_law__830 : decode cL_law_ 830 = .ok (.aload_n 1, 1) := by decide +kernel
theorem dL_law__831 : decode cL_law_ 831 = .ok (.aload_n 0, 1) := by decide +kernel
theorem dL_law__832 : decode cL_law_ 832 = .ok (.iload 4, 2) := by decide +kernel
theorem dL_law__834 : decode cL_law_ 834 = .ok (.iconst 1, 1) := by decide +kernel
theorem dL_law__835 : decode cL_law_ 835 = .ok (.iadd, 1) := by decide +kernel
theorem dL_law__836 : decode cL_law_ 836 = .ok (.iaload, 1) := by decide +kernel
theorem dL_law__837 : decode cL_law_ 837 = .ok (.aload_n 0, 1) := by decide +kernel
theorem dL_law__838 : decode cL_law_ 838 = .ok (.iload 4, 2) := by decide +kernel
theorem dL_law__840 : decode cL_law_ 840 = .ok (.iconst 2, 1) := by decide +kernel
theorem dL_law__841 : decode cL_law_ 841 = .ok (.iadd, 1) := by decide +kernel
theorem dL_law__842 : decode cL_law_ 842 = .ok (.iaload, 1) := by decide +kernel
theorem dL_law__843 : decode cL_law_ 843 = .ok (.aload_n 0, 1) := by decide +kernel
theorem dL_law__844 : decode cL_law_ 844 = .ok (.iload 4, 2) := by decide +kernel
theorem dL_law__846 : decode cL_law_ 846 = .ok (.iconst 3, 1) := by decide +kernel
theorem dL_law__847 : decode cL_law_ 847 = .ok (.iadd, 1) := by decide +kernel
theorem dL_law__848 : decode cL_law_ 848 = .ok (.iaload, 1) := by decide +kernel
theorem dL_law__849 : decode cL_law_ 849 = .ok (.aload_n 0, 1) := by decide +kernel
theorem dL_law__850 : decode cL_law_ 850 = .ok (.iload 4, 2) := by decide +kernel
theorem dL_law__852 : decode cL_law_ 852 = .ok (.iconst 4, 1) := by decide +kernel
theorem dL_law__853 : decode cL_law_ 853 = .ok (.iadd, 1) := by decide +kernel
theorem dL_law__854 : decode cL_law_ 854 = .ok (.iaload, 1) := by decide +kernel
theorem dL_law__855 : decode cL_law_ 855 = .ok (.aload_n 0, 1) := by decide +kernel
theorem dL_law__856 : decode cL_law_ 856 = .ok (.iload 4, 2) := by decide +kernel
theorem dL_law__858 : decode cL_law_ 858 = .ok (.iconst 5, 1) := by decide +kernel
theorem dL_law__859 : decode cL_law_ 859 = .ok (.iadd, 1) := by decide +kernel
theorem dL_law__860 : decode cL_law_ 860 = .ok (.iaload, 1) := by decide +kernel
theorem dL_law__861 : decode cL_law_ 861 = .ok (.aload_n 0, 1) := by decide +kernel
theorem dL_law__862 : decode cL_law_ 862 = .ok (.iload 4, 2) := by decide +kernel
theorem dL_law__864 : decode cL_law_ 864 = .ok (.bipush 6, 2) := by decide +kernel
theorem dL_law__866 : decode cL_law_ 866 = .ok (.iadd, 1) := by decide +kernel
theorem dL_law__867 : decode cL_law_ 867 = .ok (.iaload, 1) := by decide +kernel
theorem dL_law__868 : decode cL_law_ 868 = .ok (.aload_n 0, 1) := by decide +kernel
theorem dL_law__869 : decode cL_law_ 869 = .ok (.iload 4, 2) := by decide +kernel
theorem dL_law__871 : decode cL_law_ 871 = .ok (.bipush 7, 2) := by decide +kernel
theorem dL_law__873 : decode cL_law_ 873 = .ok (.iadd, 1) := by decide +kernel
theorem dL_law__874 : decode cL_law_ 874 = .ok (.iaload, 1) := by decide +kernel
theorem dL_law__875 : decode cL_law_ 875 = .ok (.aload_n 3, 1) := by decide +kernel
theorem dL_law__876 : decode cL_law_ 876 = .ok (.invokestatic 144, 3) := by decide +kernel
theorem dL_law__879 : decode cL_law_ 879 = .ok (.istore 5, 2) := by decide +kernel
theorem dL_law__881 : decode cL_law_ 881 = .ok (.aload_n 2, 1) := by decide +kernel
theorem dL_law__882 : decode cL_law_ 882 = .ok (.aload_n 0, 1) := by decide +kernel
theorem dL_law__883 : decode cL_law_ 883 = .ok (.iload 4, 2) := by decide +kernel
theorem dL_law__885 : decode cL_law_ 885 = .ok (.iconst 1, 1) := by decide +kernel
theorem dL_law__886 : decode cL_law_ 886 = .ok (.iadd, 1) := by decide +kernel
theorem dL_law__887 : decode cL_law_ 887 = .ok (.iaload, 1) := by decide +kernel
theorem dL_law__888 : decode cL_law_ 888 = .ok (.aload_n 0, 1) := by decide +kernel
theorem dL_law__889 : decode cL_law_ 889 = .ok (.iload 4, 2) := by decide +kernel
theorem dL_law__891 : decode cL_law_ 891 = .ok (.iconst 2, 1) := by decide +kernel
theorem dL_law__892 : decode cL_law_ 892 = .ok (.iadd, 1) := by decide +kernel
theorem dL_law__893 : decode cL_law_ 893 = .ok (.iaload, 1) := by decide +kernel
theorem dL_law__894 : decode cL_law_ 894 = .ok (.aload_n 0, 1) := by decide +kernel
theorem dL_law__895 : decode cL_law_ 895 = .ok (.iload 4, 2) := by decide +kernel
theorem dL_law__897 : decode cL_law_ 897 = .ok (.iconst 3, 1) := by decide +kernel
theorem dL_law__898 : decode cL_law_ 898 = .ok (.iadd, 1) := by decide +kernel
theorem dL_law__899 : decode cL_law_ 899 = .ok (.iaload, 1) := by decide +kernel
theorem dL_law__900 : decode cL_law_ 900 = .ok (.aload_n 0, 1) := by decide +kernel
theorem dL_law__901 : decode cL_law_ 901 = .ok (.iload 4, 2) := by decide +kernel
theorem dL_law__903 : decode cL_law_ 903 = .ok (.iconst 4, 1) := by decide +kernel
theorem dL_law__904 : decode cL_law_ 904 = .ok (.iadd, 1) := by decide +kernel
theorem dL_law__905 : decode cL_law_ 905 = .ok (.iaload, 1) := by decide +kernel
theorem dL_law__906 : decode cL_law_ 906 = .ok (.aload_n 0, 1) := by decide +kernel
theorem dL_law__907 : decode cL_law_ 907 = .ok (.iload 4, 2) := by decide +kernel
theorem dL_law__909 : decode cL_law_ 909 = .ok (.iconst 5, 1) := by decide +kernel
theorem dL_law__910 : decode cL_law_ 910 = .ok (.iadd, 1) := by decide +kernel
theorem dL_law__911 : decode cL_law_ 911 = .ok (.iaload, 1) := by decide +kernel
theorem dL_law__912 : decode cL_law_ 912 = .ok (.aload_n 0, 1) := by decide +kernel
theorem dL_law__913 : decode cL_law_ 913 = .ok (.iload 4, 2) := by decide +kernel
theorem dL_law__915 : decode cL_law_ 915 = .ok (.bipush 6, 2) := by decide +kernel
theorem dL_law__917 : decode cL_law_ 917 = .ok (.iadd, 1) := by decide +kernel
theorem dL_law__918 : decode cL_law_ 918 = .ok (.iaload, 1) := by decide +kernel
theorem dL_law__919 : decode cL_law_ 919 = .ok (.aload_n 0, 1) := by decide +kernel
theorem dL_law__920 : decode cL_law_ 920 = .ok (.iload 4, 2) := by decide +kernel
theorem dL_law__922 : decode cL_law_ 922 = .ok (.bipush 7, 2) := by decide +kernel
theorem dL_law__924 : decode cL_law_ 924 = .ok (.iadd, 1) := by decide +kernel
theorem dL_law__925 : decode cL_law_ 925 = .ok (.iaload, 1) := by decide +kernel
theorem dL_law__926 : decode cL_law_ 926 = .ok (.invokevirtual 147, 3) := by decide +kernel
theorem dL_law__929 : decode cL_law_ 929 = .ok (.istore 6, 2) := by decide +kernel
theorem dL_law__931 : decode cL_law_ 931 = .ok (.aload_n 2, 1) := by decide +kernel
theorem dL_law__932 : decode cL_law_ 932 = .ok (.invokevirtual 116, 3) := by decide +kernel
theorem dL_law__935 : decode cL_law_ 935 = .ok (.iload 5, 2) := by decide +kernel
theorem dL_law__937 : decode cL_law_ 937 = .ok (.if_icmp .eq 5, 3) := by decide +kernel
theorem dL_law__940 : decode cL_law_ 940 = .ok (.iconst 0, 1) := by decide +kernel
theorem dL_law__941 : decode cL_law_ 941 = .ok (.ireturn, 1) := by decide +kernel
theorem dL_law__942 : decode cL_law_ 942 = .ok (.iload 5, 2) := by decide +kernel
theorem dL_law__944 : decode cL_law_ 944 = .ok (.ifCond .ne 15, 3) := by decide +kernel
theorem dL_law__947 : decode cL_law_ 947 = .ok (.aload_n 3, 1) := by decide +kernel
theorem dL_law__948 : decode cL_law_ 948 = .ok (.iconst 0, 1) := by decide +kernel
theorem dL_law__949 : decode cL_law_ 949 = .ok (.laload, 1) := by decide +kernel
theorem dL_law__950 : decode cL_law_ 950 = .ok (.iload 6, 2) := by decide +kernel
theorem dL_law__952 : decode cL_law_ 952 = .ok (.i2l, 1) := by decide +kernel
theorem dL_law__953 : decode cL_law_ 953 = .ok (.lcmp, 1) := by decide +kernel
theorem dL_law__954 : decode cL_law_ 954 = .ok (.ifCond .eq 5, 3) := by decide +kernel
theorem dL_law__957 : decode cL_law_ 957 = .ok (.iconst 0, 1) := by decide +kernel
theorem dL_law__958 : decode cL_law_ 958 = .ok (.ireturn, 1) := by decide +kernel
theorem dL_law__959 : decode cL_law_ 959 = .ok (.goto 1383, 3) := by decide +kernel
theorem dL_law__962 : decode cL_law_ 962 = .ok (.aload_n 1, 1) := by decide +kernel
theorem dL_law__963 : decode cL_law_ 963 = .ok (.aload_n 0, 1) := by decide +kernel
theorem dL_law__964 : decode cL_law_ 964 = .ok (.iload 4, 2) := by decide +kernel
theorem dL_law__966 : decode cL_law_ 966 = .ok (.iconst 1, 1) := by decide +kernel
theorem dL_law__967 : decode cL_law_ 967 = .ok (.iadd, 1) := by decide +kernel
theorem dL_law__968 : decode cL_law_ 968 = .ok (.iaload, 1) := by decide +kernel
theorem dL_law__969 : decode cL_law_ 969 = .ok (.aload_n 0, 1) := by decide +kernel
theorem dL_law__970 : decode cL_law_ 970 = .ok (.iload 4, 2) := by decide +kernel
theorem dL_law__972 : decode cL_law_ 972 = .ok (.iconst 2, 1) := by decide +kernel
theorem dL_law__973 : decode cL_law_ 973 = .ok (.iadd, 1) := by decide +kernel
theorem dL_law__974 : decode cL_law_ 974 = .ok (.iaload, 1) := by decide +kernel
theorem dL_law__975 : decode cL_law_ 975 = .ok (.aload_n 0, 1) := by decide +kernel
theorem dL_law__976 : decode cL_law_ 976 = .ok (.iload 4, 2) := by decide +kernel
theorem dL_law__978 : decode cL_law_ 978 = .ok (.iconst 3, 1) := by decide +kernel
theorem dL_law__979 : decode cL_law_ 979 = .ok (.iadd, 1) := by decide +kernel
theorem dL_law__980 : decode cL_law_ 980 = .ok (.iaload, 1) := by decide +kernel
theorem dL_law__981 : decode cL_law_ 981 = .ok (.aload_n 0, 1) := by decide +kernel
theorem dL_law__982 : decode cL_law_ 982 = .ok (.iload 4, 2) := by decide +kernel
theorem dL_law__984 : decode cL_law_ 984 = .ok (.iconst 4, 1) := by decide +kernel
theorem dL_law__985 : decode cL_law_ 985 = .ok (.iadd, 1) := by decide +kernel
theorem dL_law__986 : decode cL_law_ 986 = .ok (.iaload, 1) := by decide +kernel
theorem dL_law__987 : decode cL_law_ 987 = .ok (.aload_n 0, 1) := by decide +kernel
theorem dL_law__988 : decode cL_law_ 988 = .ok (.iload 4, 2) := by decide +kernel
theorem dL_law__990 : decode cL_law_ 990 = .ok (.iconst 5, 1) := by decide +kernel
theorem dL_law__991 : decode cL_law_ 991 = .ok (.iadd, 1) := by decide +kernel
theorem dL_law__992 : decode cL_law_ 992 = .ok (.iaload, 1) := by decide +kernel
theorem dL_law__993 : decode cL_law_ 993 = .ok (.aload_n 3, 1) := by decide +kernel
theorem dL_law__994 : decode cL_law_ 994 = .ok (.invokestatic 148, 3) := by decide +kernel
theorem dL_law__997 : decode cL_law_ 997 = .ok (.istore 5, 2) := by decide +kernel
theorem dL_law__999 : decode cL_law_ 999 = .ok (.aload_n 2, 1) := by decide +kernel
theorem dL_law__1000 : decode cL_law_ 1000 = .ok (.aload_n 0, 1) := by decide +kernel
theorem dL_law__1001 : decode cL_law_ 1001 = .ok (.iload 4, 2) := by decide +kernel
theorem dL_law__1003 : decode cL_law_ 1003 = .ok (.iconst 1, 1) := by decide +kernel
theorem dL_law__1004 : decode cL_law_ 1004 = .ok (.iadd, 1) := by decide +kernel
theorem dL_law__1005 : decode cL_law_ 1005 = .ok (.iaload, 1) := by decide +kernel
theorem dL_law__1006 : decode cL_law_ 1006 = .ok (.aload_n 0, 1) := by decide +kernel
theorem dL_law__1007 : decode cL_law_ 1007 = .ok (.iload 4, 2) := by decide +kernel
theorem dL_law__1009 : decode cL_law_ 1009 = .ok (.iconst 2, 1) := by decide +kernel
theorem dL_law__1010 : decode cL_law_ 1010 = .ok (.iadd, 1) := by decide +kernel
theorem dL_law__1011 : decode cL_law_ 1011 = .ok (.iaload, 1) := by decide +kernel
theorem dL_law__1012 : decode cL_law_ 1012 = .ok (.aload_n 0, 1) := by decide +kernel
theorem dL_law__1013 : decode cL_law_ 1013 = .ok (.iload 4, 2) := by decide +kernel
theorem dL_law__1015 : decode cL_law_ 1015 = .ok (.iconst 3, 1) := by decide +kernel
theorem dL_law__1016 : decode cL_law_ 1016 = .ok (.iadd, 1) := by decide +kernel
theorem dL_law__1017 : decode cL_law_ 1017 = .ok (.iaload, 1) := by decide +kernel
theorem dL_law__1018 : decode cL_law_ 1018 = .ok (.aload_n 0, 1) := by decide +kernel
theorem dL_law__1019 : decode cL_law_ 1019 = .ok (.iload 4, 2) := by decide +kernel
theorem dL_law__1021 : decode cL_law_ 1021 = .ok (.iconst 4, 1) := by decide +kernel
theorem dL_law__1022 : decode cL_law_ 1022 = .ok (.iadd, 1) := by decide +kernel
theorem dL_law__1023 : decode cL_law_ 1023 = .ok (.iaload, 1) := by decide +kernel
theorem dL_law__1024 : decode cL_law_ 1024 = .ok (.aload_n 0, 1) := by decide +kernel
theorem dL_law__1025 : decode cL_law_ 1025 = .ok (.iload 4, 2) := by decide +kernel
theorem dL_law__1027 : decode cL_law_ 1027 = .ok (.iconst 5, 1) := by decide +kernel
theorem dL_law__1028 : decode cL_law_ 1028 = .ok (.iadd, 1) := by decide +kernel
theorem dL_law__1029 : decode cL_law_ 1029 = .ok (.iaload, 1) := by decide +kernel
theorem dL_law__1030 : decode cL_law_ 1030 = .ok (.invokevirtual 151, 3) := by decide +kernel
theorem dL_law__1033 : decode cL_law_ 1033 = .ok (.istore 6, 2) := by decide +kernel
theorem dL_law__1035 : decode cL_law_ 1035 = .ok (.aload_n 2, 1) := by decide +kernel
theorem dL_law__1036 : decode cL_law_ 1036 = .ok (.invokevirtual 116, 3) := by decide +kernel
theorem dL_law__1039 : decode cL_law_ 1039 = .ok (.iload 5, 2) := by decide +kernel
theorem dL_law__1041 : decode cL_law_ 1041 = .ok (.if_icmp .eq 5, 3) := by decide +kernel
theorem dL_law__1044 : decode cL_law_ 1044 = .ok (.iconst 0, 1) := by decide +kernel
theorem dL_law__1045 : decode cL_law_ 1045 = .ok (.ireturn, 1) := by decide +kernel
theorem dL_law__1046 : decode cL_law_ 1046 = .ok (.iload 5, 2) := by decide +kernel
theorem dL_law__1048 : decode cL_law_ 1048 = .ok (.ifCond .ne 15, 3) := by decide +kernel
theorem dL_law__1051 : decode cL_law_ 1051 = .ok (.aload_n 3, 1) := by decide +kernel
theorem dL_law__1052 : decode cL_law_ 1052 = .ok (.iconst 0, 1) := by decide +kernel
theorem dL_law__1053 : decode cL_law_ 1053 = .ok (.laload, 1) := by decide +kernel
theorem dL_law__1054 : decode cL_law_ 1054 = .ok (.iload 6, 2) := by decide +kernel
theorem dL_law__1056 : decode cL_law_ 1056 = .ok (.i2l, 1) := by decide +kernel
theorem dL_law__1057 : decode cL_law_ 1057 = .ok (.lcmp, 1) := by decide +kernel
theorem dL_law__1058 : decode cL_law_ 1058 = .ok (.ifCond .eq 5, 3) := by decide +kernel
theorem dL_law__1061 : decode cL_law_ 1061 = .ok (.iconst 0, 1) := by decide +kernel
theorem dL_law__1062 : decode cL_law_ 1062 = .ok (.ireturn, 1) := by decide +kernel
theorem dL_law__1063 : decode cL_law_ 1063 = .ok (.goto 1279, 3) := by decide +kernel
theorem dL_law__1066 : decode cL_law_ 1066 = .ok (.aload_n 1, 1) := by decide +kernel
theorem dL_law__1067 : decode cL_law_ 1067 = .ok (.aload_n 0, 1) := by decide +kernel
theorem dL_law__1068 : decode cL_law_ 1068 = .ok (.iload 4, 2) := by decide +kernel
theorem dL_law__1070 : decode cL_law_ 1070 = .ok (.iconst 1, 1) := by decide +kernel
theorem dL_law__1071 : decode cL_law_ 1071 = .ok (.iadd, 1) := by decide +kernel
theorem dL_law__1072 : decode cL_law_ 1072 = .ok (.iaload, 1) := by decide +kernel
theorem dL_law__1073 : decode cL_law_ 1073 = .ok (.ifCond .eq 7, 3) := by decide +kernel
theorem dL_law__1076 : decode cL_law_ 1076 = .ok (.iconst 1, 1) := by decide +kernel
theorem dL_law__1077 : decode cL_law_ 1077 = .ok (.goto 4, 3) := by decide +kernel
theorem dL_law__1080 : decode cL_law_ 1080 = .ok (.iconst 0, 1) := by decide +kernel
theorem dL_law__1081 : decode cL_law_ 1081 = .ok (.aload_n 0, 1) := by decide +kernel
theorem dL_law__1082 : decode cL_law_ 1082 = .ok (.iload 4, 2) := by decide +kernel
theorem dL_law__1084 : decode cL_law_ 1084 = .ok (.iconst 2, 1) := by decide +kernel
theorem dL_law__1085 : decode cL_law_ 1085 = .ok (.iadd, 1) := by decide +kernel
theorem dL_law__1086 : decode cL_law_ 1086 = .ok (.iaload, 1) := by decide +kernel
theorem dL_law__1087 : decode cL_law_ 1087 = .ok (.aload_n 3, 1) := by decide +kernel
theorem dL_law__1088 : decode cL_law_ 1088 = .ok (.invokestatic 152, 3) := by decide +kernel
theorem dL_law__1091 : decode cL_law_ 1091 = .ok (.istore 5, 2) := by decide +kernel
theorem dL_law__1093 : decode cL_law_ 1093 = .ok (.aload_n 2, 1) := by decide +kernel
theorem dL_law__1094 : decode cL_law_ 1094 = .ok (.aload_n 0, 1) := by decide +kernel
theorem dL_law__1095 : decode cL_law_ 1095 = .ok (.iload 4, 2) := by decide +kernel
theorem dL_law__1097 : decode cL_law_ 1097 = .ok (.iconst 1, 1) := by decide +kernel
theorem dL_law__1098 : decode cL_law_ 1098 = .ok (.iadd, 1) := by decide +kernel
theorem dL_law__1099 : decode cL_law_ 1099 = .ok (.iaload, 1) := by decide +kernel
theorem dL_law__1100 : decode cL_law_ 1100 = .ok (.ifCond .eq 7, 3) := by decide +kernel
theorem dL_law__1103 : decode cL_law_ 1103 = .ok (.iconst 1, 1) := by decide +kernel
theorem dL_law__1104 : decode cL_law_ 1104 = .ok (.goto 4, 3) := by decide +kernel
theorem dL_law__1107 : decode cL_law_ 1107 = .ok (.iconst 0, 1) := by decide +kernel
theorem dL_law__1108 : decode cL_law_ 1108 = .ok (.aload_n 0, 1) := by decide +kernel
theorem dL_law__1109 : decode cL_law_ 1109 = .ok (.iload 4, 2) := by decide +kernel
theorem dL_law__1111 : decode cL_law_ 1111 = .ok (.iconst 2, 1) := by decide +kernel
theorem dL_law__1112 : decode cL_law_ 1112 = .ok (.iadd, 1) := by decide +kernel
theorem dL_law__1113 : decode cL_law_ 1113 = .ok (.iaload, 1) := by decide +kernel
theorem dL_law__1114 : decode cL_law_ 1114 = .ok (.invokevirtual 155, 3) := by decide +kernel
theorem dL_law__1117 : decode cL_law_ 1117 = .ok (.istore 6, 2) := by decide +kernel
theorem dL_law__1119 : decode cL_law_ 1119 = .ok (.aload_n 2, 1) := by decide +kernel
theorem dL_law__1120 : decode cL_law_ 1120 = .ok (.invokevirtual 116, 3) := by decide +kernel
theorem dL_law__1123 : decode cL_law_ 1123 = .ok (.iload 5, 2) := by decide +kernel
theorem dL_law__1125 : decode cL_law_ 1125 = .ok (.if_icmp .eq 5, 3) := by decide +kernel
theorem dL_law__1128 : decode cL_law_ 1128 = .ok (.iconst 0, 1) := by decide +kernel
theorem dL_law__1129 : decode cL_law_ 1129 = .ok (.ireturn, 1) := by decide +kernel
theorem dL_law__1130 : decode cL_law_ 1130 = .ok (.iload 5, 2) := by decide +kernel
theorem dL_law__1132 : decode cL_law_ 1132 = .ok (.ifCond .ne 22, 3) := by decide +kernel
theorem dL_law__1135 : decode cL_law_ 1135 = .ok (.aload_n 3, 1) := by decide +kernel
theorem dL_law__1136 : decode cL_law_ 1136 = .ok (.iconst 0, 1) := by decide +kernel
theorem dL_law__1137 : decode cL_law_ 1137 = .ok (.laload, 1) := by decide +kernel
theorem dL_law__1138 : decode cL_law_ 1138 = .ok (.iload 6, 2) := by decide +kernel
theorem dL_law__1140 : decode cL_law_ 1140 = .ok (.ifCond .eq 7, 3) := by decide +kernel
theorem dL_law__1143 : decode cL_law_ 1143 = .ok (.lconst 1, 1) := by decide +kernel
theorem dL_law__1144 : decode cL_law_ 1144 = .ok (.goto 4, 3) := by decide +kernel
theorem dL_law__1147 : decode cL_law_ 1147 = .ok (.lconst 0, 1) := by decide +kernel
theorem dL_law__1148 : decode cL_law_ 1148 = .ok (.lcmp, 1) := by decide +kernel
theorem dL_law__1149 : decode cL_law_ 1149 = .ok (.ifCond .eq 5, 3) := by decide +kernel
theorem dL_law__1152 : decode cL_law_ 1152 = .ok (.iconst 0, 1) := by decide +kernel
theorem dL_law__1153 : decode cL_law_ 1153 = .ok (.ireturn, 1) := by decide +kernel
theorem dL_law__1154 : decode cL_law_ 1154 = .ok (.goto 1188, 3) := by decide +kernel
theorem dL_law__1157 : decode cL_law_ 1157 = .ok (.aload_n 1, 1) := by decide +kernel
theorem dL_law__1158 : decode cL_law_ 1158 = .ok (.aload_n 0, 1) := by decide +kernel
theorem dL_law__1159 : decode cL_law_ 1159 = .ok (.iload 4, 2) := by decide +kernel
theorem dL_law__1161 : decode cL_law_ 1161 = .ok (.iconst 1, 1) := by decide +kernel
theorem dL_law__1162 : decode cL_law_ 1162 = .ok (.iadd, 1) := by decide +kernel
theorem dL_law__1163 : decode cL_law_ 1163 = .ok (.iaload, 1) := by decide +kernel
theorem dL_law__1164 : decode cL_law_ 1164 = .ok (.aload_n 0, 1) := by decide +kernel
theorem dL_law__1165 : decode cL_law_ 1165 = .ok (.iload 4, 2) := by decide +kernel
theorem dL_law__1167 : decode cL_law_ 1167 = .ok (.iconst 2, 1) := by decide +kernel
theorem dL_law__1168 : decode cL_law_ 1168 = .ok (.iadd, 1) := by decide +kernel
theorem dL_law__1169 : decode cL_law_ 1169 = .ok (.iaload, 1) := by decide +kernel
theorem dL_law__1170 : decode cL_law_ 1170 = .ok (.aload_n 3, 1) := by decide +kernel
theorem dL_law__1171 : decode cL_law_ 1171 = .ok (.invokestatic 156, 3) := by decide +kernel
theorem dL_law__1174 : decode cL_law_ 1174 = .ok (.istore 5, 2) := by decide +kernel
theorem dL_law__1176 : decode cL_law_ 1176 = .ok (.aload_n 2, 1) := by decide +kernel
theorem dL_law__1177 : decode cL_law_ 1177 = .ok (.aload_n 0, 1) := by decide +kernel
theorem dL_law__1178 : decode cL_law_ 1178 = .ok (.iload 4, 2) := by decide +kernel
theorem dL_law__1180 : decode cL_law_ 1180 = .ok (.iconst 1, 1) := by decide +kernel
theorem dL_law__1181 : decode cL_law_ 1181 = .ok (.iadd, 1) := by decide +kernel
theorem dL_law__1182 : decode cL_law_ 1182 = .ok (.iaload, 1) := by decide +kernel
theorem dL_law__1183 : decode cL_law_ 1183 = .ok (.aload_n 0, 1) := by decide +kernel
theorem dL_law__1184 : decode cL_law_ 1184 = .ok (.iload 4, 2) := by decide +kernel
theorem dL_law__1186 : decode cL_law_ 1186 = .ok (.iconst 2, 1) := by decide +kernel
theorem dL_law__1187 : decode cL_law_ 1187 = .ok (.iadd, 1) := by decide +kernel
theorem dL_law__1188 : decode cL_law_ 1188 = .ok (.iaload, 1) := by decide +kernel
theorem dL_law__1189 : decode cL_law_ 1189 = .ok (.invokevirtual 158, 3) := by decide +kernel
theorem dL_law__1192 : decode cL_law_ 1192 = .ok (.istore 6, 2) := by decide +kernel
theorem dL_law__1194 : decode cL_law_ 1194 = .ok (.aload_n 2, 1) := by decide +kernel
theorem dL_law__1195 : decode cL_law_ 1195 = .ok (.invokevirtual 116, 3) := by decide +kernel
theorem dL_law__1198 : decode cL_law_ 1198 = .ok (.iload 5, 2) := by decide +kernel
theorem dL_law__1200 : decode cL_law_ 1200 = .ok (.if_icmp .eq 5, 3) := by decide +kernel
theorem dL_law__1203 : decode cL_law_ 1203 = .ok (.iconst 0, 1) := by decide +kernel
theorem dL_law__1204 : decode cL_law_ 1204 = .ok (.ireturn, 1) := by decide +kernel
theorem dL_law__1205 : decode cL_law_ 1205 = .ok (.iload 5, 2) := by decide +kernel
theorem dL_law__1207 : decode cL_law_ 1207 = .ok (.ifCond .ne 22, 3) := by decide +kernel
theorem dL_law__1210 : decode cL_law_ 1210 = .ok (.aload_n 3, 1) := by decide +kernel
theorem dL_law__1211 : decode cL_law_ 1211 = .ok (.iconst 0, 1) := by decide +kernel
theorem dL_law__1212 : decode cL_law_ 1212 = .ok (.laload, 1) := by decide +kernel
theorem dL_law__1213 : decode cL_law_ 1213 = .ok (.iload 6, 2) := by decide +kernel
theorem dL_law__1215 : decode cL_law_ 1215 = .ok (.ifCond .eq 7, 3) := by decide +kernel
theorem dL_law__1218 : decode cL_law_ 1218 = .ok (.lconst 1, 1) := by decide +kernel
theorem dL_law__1219 : decode cL_law_ 1219 = .ok (.goto 4, 3) := by decide +kernel
theorem dL_law__1222 : decode cL_law_ 1222 = .ok (.lconst 0, 1) := by decide +kernel
theorem dL_law__1223 : decode cL_law_ 1223 = .ok (.lcmp, 1) := by decide +kernel
theorem dL_law__1224 : decode cL_law_ 1224 = .ok (.ifCond .eq 5, 3) := by decide +kernel
theorem dL_law__1227 : decode cL_law_ 1227 = .ok (.iconst 0, 1) := by decide +kernel
theorem dL_law__1228 : decode cL_law_ 1228 = .ok (.ireturn, 1) := by decide +kernel
theorem dL_law__1229 : decode cL_law_ 1229 = .ok (.goto 1113, 3) := by decide +kernel
theorem dL_law__1232 : decode cL_law_ 1232 = .ok (.aload_n 1, 1) := by decide +kernel
theorem dL_law__1233 : decode cL_law_ 1233 = .ok (.aload_n 0, 1) := by decide +kernel
theorem dL_law__1234 : decode cL_law_ 1234 = .ok (.iload 4, 2) := by decide +kernel
theorem dL_law__1236 : decode cL_law_ 1236 = .ok (.iconst 1, 1) := by decide +kernel
theorem dL_law__1237 : decode cL_law_ 1237 = .ok (.iadd, 1) := by decide +kernel
theorem dL_law__1238 : decode cL_law_ 1238 = .ok (.iaload, 1) := by decide +kernel
theorem dL_law__1239 : decode cL_law_ 1239 = .ok (.aload_n 0, 1) := by decide +kernel
theorem dL_law__1240 : decode cL_law_ 1240 = .ok (.iload 4, 2) := by decide +kernel
theorem dL_law__1242 : decode cL_law_ 1242 = .ok (.iconst 2, 1) := by decide +kernel
theorem dL_law__1243 : decode cL_law_ 1243 = .ok (.iadd, 1) := by decide +kernel
theorem dL_law__1244 : decode cL_law_ 1244 = .ok (.iaload, 1) := by decide +kernel
theorem dL_law__1245 : decode cL_law_ 1245 = .ok (.aload_n 0, 1) := by decide +kernel
theorem dL_law__1246 : decode cL_law_ 1246 = .ok (.iload 4, 2) := by decide +kernel
theorem dL_law__1248 : decode cL_law_ 1248 = .ok (.iconst 3, 1) := by decide +kernel
theorem dL_law__1249 : decode cL_law_ 1249 = .ok (.iadd, 1) := by decide +kernel
theorem dL_law__1250 : decode cL_law_ 1250 = .ok (.iaload, 1) := by decide +kernel
theorem dL_law__1251 : decode cL_law_ 1251 = .ok (.aload_n 0, 1) := by decide +kernel
theorem dL_law__1252 : decode cL_law_ 1252 = .ok (.iload 4, 2) := by decide +kernel
theorem dL_law__1254 : decode cL_law_ 1254 = .ok (.iconst 4, 1) := by decide +kernel
theorem dL_law__1255 : decode cL_law_ 1255 = .ok (.iadd, 1) := by decide +kernel
theorem dL_law__1256 : decode cL_law_ 1256 = .ok (.iaload, 1) := by decide +kernel
theorem dL_law__1257 : decode cL_law_ 1257 = .ok (.aload_n 0, 1) := by decide +kernel
theorem dL_law__1258 : decode cL_law_ 1258 = .ok (.iload 4, 2) := by decide +kernel
theorem dL_law__1260 : decode cL_law_ 1260 = .ok (.iconst 5, 1) := by decide +kernel
theorem dL_law__1261 : decode cL_law_ 1261 = .ok (.iadd, 1) := by decide +kernel
theorem dL_law__1262 : decode cL_law_ 1262 = .ok (.iaload, 1) := by decide +kernel
theorem dL_law__1263 : decode cL_law_ 1263 = .ok (.invokevirtual 159, 3) := by decide +kernel
theorem dL_law__1266 : decode cL_law_ 1266 = .ok (.aload_n 2, 1) := by decide +kernel
theorem dL_law__1267 : decode cL_law_ 1267 = .ok (.aload_n 0, 1) := by decide +kernel
theorem dL_law__1268 : decode cL_law_ 1268 = .ok (.iload 4, 2) := by decide +kernel
theorem dL_law__1270 : decode cL_law_ 1270 = .ok (.iconst 1, 1) := by decide +kernel
theorem dL_law__1271 : decode cL_law_ 1271 = .ok (.iadd, 1) := by decide +kernel
theorem dL_law__1272 : decode cL_law_ 1272 = .ok (.iaload, 1) := by decide +kernel
theorem dL_law__1273 : decode cL_law_ 1273 = .ok (.aload_n 0, 1) := by decide +kernel
theorem dL_law__1274 : decode cL_law_ 1274 = .ok (.iload 4, 2) := by decide +kernel
theorem dL_law__1276 : decode cL_law_ 1276 = .ok (.iconst 2, 1) := by decide +kernel
theorem dL_law__1277 : decode cL_law_ 1277 = .ok (.iadd, 1) := by decide +kernel
theorem dL_law__1278 : decode cL_law_ 1278 = .ok (.iaload, 1) := by decide +kernel
theorem dL_law__1279 : decode cL_law_ 1279 = .ok (.aload_n 0, 1) := by decide +kernel
theorem dL_law__1280 : decode cL_law_ 1280 = .ok (.iload 4, 2) := by decide +kernel
theorem dL_law__1282 : decode cL_law_ 1282 = .ok (.iconst 3, 1) := by decide +kernel
theorem dL_law__1283 : decode cL_law_ 1283 = .ok (.iadd, 1) := by decide +kernel
theorem dL_law__1284 : decode cL_law_ 1284 = .ok (.iaload, 1) := by decide +kernel
theorem dL_law__1285 : decode cL_law_ 1285 = .ok (.aload_n 0, 1) := by decide +kernel
theorem dL_law__1286 : decode cL_law_ 1286 = .ok (.iload 4, 2) := by decide +kernel
theorem dL_law__1288 : decode cL_law_ 1288 = .ok (.iconst 4, 1) := by decide +kernel
theorem dL_law__1289 : decode cL_law_ 1289 = .ok (.iadd, 1) := by decide +kernel
theorem dL_law__1290 : decode cL_law_ 1290 = .ok (.iaload, 1) := by decide +kernel
theorem dL_law__1291 : decode cL_law_ 1291 = .ok (.aload_n 0, 1) := by decide +kernel
theorem dL_law__1292 : decode cL_law_ 1292 = .ok (.iload 4, 2) := by decide +kernel
theorem dL_law__1294 : decode cL_law_ 1294 = .ok (.iconst 5, 1) := by decide +kernel
theorem dL_law__1295 : decode cL_law_ 1295 = .ok (.iadd, 1) := by decide +kernel
theorem dL_law__1296 : decode cL_law_ 1296 = .ok (.iaload, 1) := by decide +kernel
theorem dL_law__1297 : decode cL_law_ 1297 = .ok (.invokevirtual 162, 3) := by decide +kernel
theorem dL_law__1300 : decode cL_law_ 1300 = .ok (.if_icmp .eq 1042, 3) := by decide +kernel
theorem dL_law__1303 : decode cL_law_ 1303 = .ok (.iconst 0, 1) := by decide +kernel
theorem dL_law__1304 : decode cL_law_ 1304 = .ok (.ireturn, 1) := by decide +kernel
theorem dL_law__1305 : decode cL_law_ 1305 = .ok (.aload_n 1, 1) := by decide +kernel
theorem dL_law__1306 : decode cL_law_ 1306 = .ok (.aload_n 0, 1) := by decide +kernel
theorem dL_law__1307 : decode cL_law_ 1307 = .ok (.iload 4, 2) := by decide +kernel
theorem dL_law__1309 : decode cL_law_ 1309 = .ok (.iconst 1, 1) := by decide +kernel
theorem dL_law__1310 : decode cL_law_ 1310 = .ok (.iadd, 1) := by decide +kernel
theorem dL_law__1311 : decode cL_law_ 1311 = .ok (.iaload, 1) := by decide +kernel
theorem dL_law__1312 : decode cL_law_ 1312 = .ok (.aload_n 0, 1) := by decide +kernel
theorem dL_law__1313 : decode cL_law_ 1313 = .ok (.iload 4, 2) := by decide +kernel
theorem dL_law__1315 : decode cL_law_ 1315 = .ok (.iconst 2, 1) := by decide +kernel
theorem dL_law__1316 : decode cL_law_ 1316 = .ok (.iadd, 1) := by decide +kernel
theorem dL_law__1317 : decode cL_law_ 1317 = .ok (.iaload, 1) := by decide +kernel
theorem dL_law__1318 : decode cL_law_ 1318 = .ok (.aload_n 0, 1) := by decide +kernel
theorem dL_law__1319 : decode cL_law_ 1319 = .ok (.iload 4, 2) := by decide +kernel
theorem dL_law__1321 : decode cL_law_ 1321 = .ok (.iconst 3, 1) := by decide +kernel
theorem dL_law__1322 : decode cL_law_ 1322 = .ok (.iadd, 1) := by decide +kernel
theorem dL_law__1323 : decode cL_law_ 1323 = .ok (.iaload, 1) := by decide +kernel
theorem dL_law__1324 : decode cL_law_ 1324 = .ok (.aload_n 3, 1) := by decide +kernel
theorem dL_law__1325 : decode cL_law_ 1325 = .ok (.invokestatic 163, 3) := by decide +kernel
theorem dL_law__1328 : decode cL_law_ 1328 = .ok (.istore 5, 2) := by decide +kernel
theorem dL_law__1330 : decode cL_law_ 1330 = .ok (.aload_n 2, 1) := by decide +kernel
theorem dL_law__1331 : decode cL_law_ 1331 = .ok (.aload_n 0, 1) := by decide +kernel
theorem dL_law__1332 : decode cL_law_ 1332 = .ok (.iload 4, 2) := by decide +kernel
theorem dL_law__1334 : decode cL_law_ 1334 = .ok (.iconst 1, 1) := by decide +kernel
theorem dL_law__1335 : decode cL_law_ 1335 = .ok (.iadd, 1) := by decide +kernel
theorem dL_law__1336 : decode cL_law_ 1336 = .ok (.iaload, 1) := by decide +kernel
theorem dL_law__1337 : decode cL_law_ 1337 = .ok (.aload_n 0, 1) := by decide +kernel
theorem dL_law__1338 : decode cL_law_ 1338 = .ok (.iload 4, 2) := by decide +kernel
theorem dL_law__1340 : decode cL_law_ 1340 = .ok (.iconst 2, 1) := by decide +kernel
theorem dL_law__1341 : decode cL_law_ 1341 = .ok (.iadd, 1) := by decide +kernel
theorem dL_law__1342 : decode cL_law_ 1342 = .ok (.iaload, 1) := by decide +kernel
theorem dL_law__1343 : decode cL_law_ 1343 = .ok (.aload_n 0, 1) := by decide +kernel
theorem dL_law__1344 : decode cL_law_ 1344 = .ok (.iload 4, 2) := by decide +kernel
theorem dL_law__1346 : decode cL_law_ 1346 = .ok (.iconst 3, 1) := by decide +kernel
theorem dL_law__1347 : decode cL_law_ 1347 = .ok (.iadd, 1) := by decide +kernel
theorem dL_law__1348 : decode cL_law_ 1348 = .ok (.iaload, 1) := by decide +kernel
theorem dL_law__1349 : decode cL_law_ 1349 = .ok (.invokevirtual 165, 3) := by decide +kernel
theorem dL_law__1352 : decode cL_law_ 1352 = .ok (.istore 6, 2) := by decide +kernel
theorem dL_law__1354 : decode cL_law_ 1354 = .ok (.aload_n 2, 1) := by decide +kernel
theorem dL_law__1355 : decode cL_law_ 1355 = .ok (.invokevirtual 116, 3) := by decide +kernel
theorem dL_law__1358 : decode cL_law_ 1358 = .ok (.iload 5, 2) := by decide +kernel
theorem dL_law__1360 : decode cL_law_ 1360 = .ok (.if_icmp .eq 5, 3) := by decide +kernel
theorem dL_law__1363 : decode cL_law_ 1363 = .ok (.iconst 0, 1) := by decide +kernel
theorem dL_law__1364 : decode cL_law_ 1364 = .ok (.ireturn, 1) := by decide +kernel
theorem dL_law__1365 : decode cL_law_ 1365 = .ok (.iload 5, 2) := by decide +kernel
theorem dL_law__1367 : decode cL_law_ 1367 = .ok (.ifCond .ne 15, 3) := by decide +kernel
theorem dL_law__1370 : decode cL_law_ 1370 = .ok (.aload_n 3, 1) := by decide +kernel
theorem dL_law__1371 : decode cL_law_ 1371 = .ok (.iconst 0, 1) := by decide +kernel
theorem dL_law__1372 : decode cL_law_ 1372 = .ok (.laload, 1) := by decide +kernel
theorem dL_law__1373 : decode cL_law_ 1373 = .ok (.iload 6, 2) := by decide +kernel
theorem dL_law__1375 : decode cL_law_ 1375 = .ok (.i2l, 1) := by decide +kernel
theorem dL_law__1376 : decode cL_law_ 1376 = .ok (.lcmp, 1) := by decide +kernel
theorem dL_law__1377 : decode cL_law_ 1377 = .ok (.ifCond .eq 5, 3) := by decide +kernel
theorem dL_law__1380 : decode cL_law_ 1380 = .ok (.iconst 0, 1) := by decide +kernel
theorem dL_law__1381 : decode cL_law_ 1381 = .ok (.ireturn, 1) := by decide +kernel
theorem dL_law__1382 : decode cL_law_ 1382 = .ok (.goto 960, 3) := by decide +kernel
theorem dL_law__1385 : decode cL_law_ 1385 = .ok (.aload_n 1, 1) := by decide +kernel
theorem dL_law__1386 : decode cL_law_ 1386 = .ok (.invokevirtual 166, 3) := by decide +kernel
theorem dL_law__1389 : decode cL_law_ 1389 = .ok (.aload_n 2, 1) := by decide +kernel
theorem dL_law__1390 : decode cL_law_ 1390 = .ok (.invokevirtual 169, 3) := by decide +kernel
theorem dL_law__1393 : decode cL_law_ 1393 = .ok (.if_icmp .eq 949, 3) := by decide +kernel
theorem dL_law__1396 : decode cL_law_ 1396 = .ok (.iconst 0, 1) := by decide +kernel
theorem dL_law__1397 : decode cL_law_ 1397 = .ok (.ireturn, 1) := by decide +kernel
theorem dL_law__1398 : decode cL_law_ 1398 = .ok (.aload_n 1, 1) := by decide +kernel
theorem dL_law__1399 : decode cL_law_ 1399 = .ok (.aload_n 0, 1) := by decide +kernel
theorem dL_law__1400 : decode cL_law_ 1400 = .ok (.iload 4, 2) := by decide +kernel
theorem dL_law__1402 : decode cL_law_ 1402 = .ok (.iconst 1, 1) := by decide +kernel
theorem dL_law__1403 : decode cL_law_ 1403 = .ok (.iadd, 1) := by decide +kernel
theorem dL_law__1404 : decode cL_law_ 1404 = .ok (.iaload, 1) := by decide +kernel
theorem dL_law__1405 : decode cL_law_ 1405 = .ok (.aload_n 0, 1) := by decide +kernel
theorem dL_law__1406 : decode cL_law_ 1406 = .ok (.iload 4, 2) := by decide +kernel
theorem dL_law__1408 : decode cL_law_ 1408 = .ok (.iconst 2, 1) := by decide +kernel
theorem dL_law__1409 : decode cL_law_ 1409 = .ok (.iadd, 1) := by decide +kernel
theorem dL_law__1410 : decode cL_law_ 1410 = .ok (.iaload, 1) := by decide +kernel
theorem dL_law__1411 : decode cL_law_ 1411 = .ok (.aload_n 0, 1) := by decide +kernel
theorem dL_law__1412 : decode cL_law_ 1412 = .ok (.iload 4, 2) := by decide +kernel
theorem dL_law__1414 : decode cL_law_ 1414 = .ok (.iconst 3, 1) := by decide +kernel
theorem dL_law__1415 : decode cL_law_ 1415 = .ok (.iadd, 1) := by decide +kernel
theorem dL_law__1416 : decode cL_law_ 1416 = .ok (.iaload, 1) := by decide +kernel
theorem dL_law__1417 : decode cL_law_ 1417 = .ok (.aload_n 3, 1) := by decide +kernel
theorem dL_law__1418 : decode cL_law_ 1418 = .ok (.invokestatic 170, 3) := by decide +kernel
theorem dL_law__1421 : decode cL_law_ 1421 = .ok (.istore 5, 2) := by decide +kernel
theorem dL_law__1423 : decode cL_law_ 1423 = .ok (.aload_n 2, 1) := by decide +kernel
theorem dL_law__1424 : decode cL_law_ 1424 = .ok (.aload_n 0, 1) := by decide +kernel
theorem dL_law__1425 : decode cL_law_ 1425 = .ok (.iload 4, 2) := by decide +kernel
theorem dL_law__1427 : decode cL_law_ 1427 = .ok (.iconst 1, 1) := by decide +kernel
theorem dL_law__1428 : decode cL_law_ 1428 = .ok (.iadd, 1) := by decide +kernel
theorem dL_law__1429 : decode cL_law_ 1429 = .ok (.iaload, 1) := by decide +kernel
theorem dL_law__1430 : decode cL_law_ 1430 = .ok (.aload_n 0, 1) := by decide +kernel
theorem dL_law__1431 : decode cL_law_ 1431 = .ok (.iload 4, 2) := by decide +kernel
theorem dL_law__1433 : decode cL_law_ 1433 = .ok (.iconst 2, 1) := by decide +kernel
theorem dL_law__1434 : decode cL_law_ 1434 = .ok (.iadd, 1) := by decide +kernel
theorem dL_law__1435 : decode cL_law_ 1435 = .ok (.iaload, 1) := by decide +kernel
theorem dL_law__1436 : decode cL_law_ 1436 = .ok (.aload_n 0, 1) := by decide +kernel
theorem dL_law__1437 : decode cL_law_ 1437 = .ok (.iload 4, 2) := by decide +kernel
theorem dL_law__1439 : decode cL_law_ 1439 = .ok (.iconst 3, 1) := by decide +kernel
theorem dL_law__1440 : decode cL_law_ 1440 = .ok (.iadd, 1) := by decide +kernel
theorem dL_law__1441 : decode cL_law_ 1441 = .ok (.iaload, 1) := by decide +kernel
theorem dL_law__1442 : decode cL_law_ 1442 = .ok (.invokevirtual 172, 3) := by decide +kernel
theorem dL_law__1445 : decode cL_law_ 1445 = .ok (.istore 6, 2) := by decide +kernel
theorem dL_law__1447 : decode cL_law_ 1447 = .ok (.aload_n 2, 1) := by decide +kernel
theorem dL_law__1448 : decode cL_law_ 1448 = .ok (.invokevirtual 116, 3) := by decide +kernel
theorem dL_law__1451 : decode cL_law_ 1451 = .ok (.iload 5, 2) := by decide +kernel
theorem dL_law__1453 : decode cL_law_ 1453 = .ok (.if_icmp .eq 5, 3) := by decide +kernel
theorem dL_law__1456 : decode cL_law_ 1456 = .ok (.iconst 0, 1) := by decide +kernel
theorem dL_law__1457 : decode cL_law_ 1457 = .ok (.ireturn, 1) := by decide +kernel
theorem dL_law__1458 : decode cL_law_ 1458 = .ok (.iload 5, 2) := by decide +kernel
theorem dL_law__1460 : decode cL_law_ 1460 = .ok (.ifCond .ne 15, 3) := by decide +kernel
theorem dL_law__1463 : decode cL_law_ 1463 = .ok (.aload_n 3, 1) := by decide +kernel
theorem dL_law__1464 : decode cL_law_ 1464 = .ok (.iconst 0, 1) := by decide +kernel
theorem dL_law__1465 : decode cL_law_ 1465 = .ok (.laload, 1) := by decide +kernel
theorem dL_law__1466 : decode cL_law_ 1466 = .ok (.iload 6, 2) := by decide +kernel
theorem dL_law__1468 : decode cL_law_ 1468 = .ok (.i2l, 1) := by decide +kernel
theorem dL_law__1469 : decode cL_law_ 1469 = .ok (.lcmp, 1) := by decide +kernel
theorem dL_law__1470 : decode cL_law_ 1470 = .ok (.ifCond .eq 5, 3) := by decide +kernel
theorem dL_law__1473 : decode cL_law_ 1473 = .ok (.iconst 0, 1) := by decide +kernel
theorem dL_law__1474 : decode cL_law_ 1474 = .ok (.ireturn, 1) := by decide +kernel
theorem dL_law__1475 : decode cL_law_ 1475 = .ok (.goto 867, 3) := by decide +kernel
theorem dL_law__1478 : decode cL_law_ 1478 = .ok (.aload_n 1, 1) := by decide +kernel
theorem dL_law__1479 : decode cL_law_ 1479 = .ok (.aload_n 0, 1) := by decide +kernel
theorem dL_law__1480 : decode cL_law_ 1480 = .ok (.iload 4, 2) := by decide +kernel
theorem dL_law__1482 : decode cL_law_ 1482 = .ok (.iconst 1, 1) := by decide +kernel
theorem dL_law__1483 : decode cL_law_ 1483 = .ok (.iadd, 1) := by decide +kernel
theorem dL_law__1484 : decode cL_law_ 1484 = .ok (.iaload, 1) := by decide +kernel
theorem dL_law__1485 : decode cL_law_ 1485 = .ok (.aload_n 0, 1) := by decide +kernel
theorem dL_law__1486 : decode cL_law_ 1486 = .ok (.iload 4, 2) := by decide +kernel
theorem dL_law__1488 : decode cL_law_ 1488 = .ok (.iconst 2, 1) := by decide +kernel
theorem dL_law__1489 : decode cL_law_ 1489 = .ok (.iadd, 1) := by decide +kernel
theorem dL_law__1490 : decode cL_law_ 1490 = .ok (.iaload, 1) := by decide +kernel
theorem dL_law__1491 : decode cL_law_ 1491 = .ok (.aload_n 0, 1) := by decide +kernel
theorem dL_law__1492 : decode cL_law_ 1492 = .ok (.iload 4, 2) := by decide +kernel
theorem dL_law__1494 : decode cL_law_ 1494 = .ok (.iconst 3, 1) := by decide +kernel
theorem dL_law__1495 : decode cL_law_ 1495 = .ok (.iadd, 1) := by decide +kernel
theorem dL_law__1496 : decode cL_law_ 1496 = .ok (.iaload, 1) := by decide +kernel
theorem dL_law__1497 : decode cL_law_ 1497 = .ok (.aload_n 0, 1) := by decide +kernel
theorem dL_law__1498 : decode cL_law_ 1498 = .ok (.iload 4, 2) := by decide +kernel
theorem dL_law__1500 : decode cL_law_ 1500 = .ok (.iconst 4, 1) := by decide +kernel
theorem dL_law__1501 : decode cL_law_ 1501 = .ok (.iadd, 1) := by decide +kernel
theorem dL_law__1502 : decode cL_law_ 1502 = .ok (.iaload, 1) := by decide +kernel
theorem dL_law__1503 : decode cL_law_ 1503 = .ok (.aload_n 3, 1) := by decide +kernel
theorem dL_law__1504 : decode cL_law_ 1504 = .ok (.invokestatic 173, 3) := by decide +kernel
theorem dL_law__1507 : decode cL_law_ 1507 = .ok (.istore 5, 2) := by decide +kernel
theorem dL_law__1509 : decode cL_law_ 1509 = .ok (.aload_n 2, 1) := by decide +kernel
theorem dL_law__1510 : decode cL_law_ 1510 = .ok (.aload_n 0, 1) := by decide +kernel
theorem dL_law__1511 : decode cL_law_ 1511 = .ok (.iload 4, 2) := by decide +kernel
theorem dL_law__1513 : decode cL_law_ 1513 = .ok (.iconst 1, 1) := by decide +kernel
theorem dL_law__1514 : decode cL_law_ 1514 = .ok (.iadd, 1) := by decide +kernel
theorem dL_law__1515 : decode cL_law_ 1515 = .ok (.iaload, 1) := by decide +kernel
theorem dL_law__1516 : decode cL_law_ 1516 = .ok (.aload_n 0, 1) := by decide +kernel
theorem dL_law__1517 : decode cL_law_ 1517 = .ok (.iload 4, 2) := by decide +kernel
theorem dL_law__1519 : decode cL_law_ 1519 = .ok (.iconst 2, 1) := by decide +kernel
theorem dL_law__1520 : decode cL_law_ 1520 = .ok (.iadd, 1) := by decide +kernel
theorem dL_law__1521 : decode cL_law_ 1521 = .ok (.iaload, 1) := by decide +kernel
theorem dL_law__1522 : decode cL_law_ 1522 = .ok (.aload_n 0, 1) := by decide +kernel
theorem dL_law__1523 : decode cL_law_ 1523 = .ok (.iload 4, 2) := by decide +kernel
theorem dL_law__1525 : decode cL_law_ 1525 = .ok (.iconst 3, 1) := by decide +kernel
theorem dL_law__1526 : decode cL_law_ 1526 = .ok (.iadd, 1) := by decide +kernel
theorem dL_law__1527 : decode cL_law_ 1527 = .ok (.iaload, 1) := by decide +kernel
theorem dL_law__1528 : decode cL_law_ 1528 = .ok (.aload_n 0, 1) := by decide +kernel
theorem dL_law__1529 : decode cL_law_ 1529 = .ok (.iload 4, 2) := by decide +kernel
theorem dL_law__1531 : decode cL_law_ 1531 = .ok (.iconst 4, 1) := by decide +kernel
theorem dL_law__1532 : decode cL_law_ 1532 = .ok (.iadd, 1) := by decide +kernel
theorem dL_law__1533 : decode cL_law_ 1533 = .ok (.iaload, 1) := by decide +kernel
theorem dL_law__1534 : decode cL_law_ 1534 = .ok (.invokevirtual 175, 3) := by decide +kernel
theorem dL_law__1537 : decode cL_law_ 1537 = .ok (.istore 6, 2) := by decide +kernel
theorem dL_law__1539 : decode cL_law_ 1539 = .ok (.aload_n 2, 1) := by decide +kernel
theorem dL_law__1540 : decode cL_law_ 1540 = .ok (.invokevirtual 116, 3) := by decide +kernel
theorem dL_law__1543 : decode cL_law_ 1543 = .ok (.iload 5, 2) := by decide +kernel
theorem dL_law__1545 : decode cL_law_ 1545 = .ok (.if_icmp .eq 5, 3) := by decide +kernel
theorem dL_law__1548 : decode cL_law_ 1548 = .ok (.iconst 0, 1) := by decide +kernel
theorem dL_law__1549 : decode cL_law_ 1549 = .ok (.ireturn, 1) := by decide +kernel
theorem dL_law__1550 : decode cL_law_ 1550 = .ok (.iload 5, 2) := by decide +kernel
theorem dL_law__1552 : decode cL_law_ 1552 = .ok (.ifCond .ne 15, 3) := by decide +kernel
theorem dL_law__1555 : decode cL_law_ 1555 = .ok (.aload_n 3, 1) := by decide +kernel
theorem dL_law__1556 : decode cL_law_ 1556 = .ok (.iconst 0, 1) := by decide +kernel
theorem dL_law__1557 : decode cL_law_ 1557 = .ok (.laload, 1) := by decide +kernel
theorem dL_law__1558 : decode cL_law_ 1558 = .ok (.iload 6, 2) := by decide +kernel
theorem dL_law__1560 : decode cL_law_ 1560 = .ok (.i2l, 1) := by decide +kernel
theorem dL_law__1561 : decode cL_law_ 1561 = .ok (.lcmp, 1) := by decide +kernel
theorem dL_law__1562 : decode cL_law_ 1562 = .ok (.ifCond .eq 5, 3) := by decide +kernel
theorem dL_law__1565 : decode cL_law_ 1565 = .ok (.iconst 0, 1) := by decide +kernel
theorem dL_law__1566 : decode cL_law_ 1566 = .ok (.ireturn, 1) := by decide +kernel
theorem dL_law__1567 : decode cL_law_ 1567 = .ok (.goto 775, 3) := by decide +kernel
theorem dL_law__1570 : decode cL_law_ 1570 = .ok (.aload_n 1, 1) := by decide +kernel
theorem dL_law__1571 : decode cL_law_ 1571 = .ok (.aload_n 0, 1) := by decide +kernel
theorem dL_law__1572 : decode cL_law_ 1572 = .ok (.iload 4, 2) := by decide +kernel
theorem dL_law__1574 : decode cL_law_ 1574 = .ok (.iconst 1, 1) := by decide +kernel
theorem dL_law__1575 : decode cL_law_ 1575 = .ok (.iadd, 1) := by decide +kernel
theorem dL_law__1576 : decode cL_law_ 1576 = .ok (.iaload, 1) := by decide +kernel
theorem dL_law__1577 : decode cL_law_ 1577 = .ok (.aload_n 0, 1) := by decide +kernel
theorem dL_law__1578 : decode cL_law_ 1578 = .ok (.iload 4, 2) := by decide +kernel
theorem dL_law__1580 : decode cL_law_ 1580 = .ok (.iconst 2, 1) := by decide +kernel
theorem dL_law__1581 : decode cL_law_ 1581 = .ok (.iadd, 1) := by decide +kernel
theorem dL_law__1582 : decode cL_law_ 1582 = .ok (.iaload, 1) := by decide +kernel
theorem dL_law__1583 : decode cL_law_ 1583 = .ok (.aload_n 0, 1) := by decide +kernel
theorem dL_law__1584 : decode cL_law_ 1584 = .ok (.iload 4, 2) := by decide +kernel
theorem dL_law__1586 : decode cL_law_ 1586 = .ok (.iconst 3, 1) := by decide +kernel
theorem dL_law__1587 : decode cL_law_ 1587 = .ok (.iadd, 1) := by decide +kernel
theorem dL_law__1588 : decode cL_law_ 1588 = .ok (.iaload, 1) := by decide +kernel
theorem dL_law__1589 : decode cL_law_ 1589 = .ok (.aload_n 3, 1) := by decide +kernel
theorem dL_law__1590 : decode cL_law_ 1590 = .ok (.invokestatic 176, 3) := by decide +kernel
theorem dL_law__1593 : decode cL_law_ 1593 = .ok (.istore 5, 2) := by decide +kernel
theorem dL_law__1595 : decode cL_law_ 1595 = .ok (.aload_n 2, 1) := by decide +kernel
theorem dL_law__1596 : decode cL_law_ 1596 = .ok (.aload_n 0, 1) := by decide +kernel
theorem dL_law__1597 : decode cL_law_ 1597 = .ok (.iload 4, 2) := by decide +kernel
theorem dL_law__1599 : decode cL_law_ 1599 = .ok (.iconst 1, 1) := by decide +kernel
theorem dL_law__1600 : decode cL_law_ 1600 = .ok (.iadd, 1) := by decide +kernel
theorem dL_law__1601 : decode cL_law_ 1601 = .ok (.iaload, 1) := by decide +kernel
theorem dL_law__1602 : decode cL_law_ 1602 = .ok (.aload_n 0, 1) := by decide +kernel
theorem dL_law__1603 : decode cL_law_ 1603 = .ok (.iload 4, 2) := by decide +kernel
theorem dL_law__1605 : decode cL_law_ 1605 = .ok (.iconst 2, 1) := by decide +kernel
theorem dL_law__1606 : decode cL_law_ 1606 = .ok (.iadd, 1) := by decide +kernel
theorem dL_law__1607 : decode cL_law_ 1607 = .ok (.iaload, 1) := by decide +kernel
theorem dL_law__1608 : decode cL_law_ 1608 = .ok (.aload_n 0, 1) := by decide +kernel
theorem dL_law__1609 : decode cL_law_ 1609 = .ok (.iload 4, 2) := by decide +kernel
theorem dL_law__1611 : decode cL_law_ 1611 = .ok (.iconst 3, 1) := by decide +kernel
theorem dL_law__1612 : decode cL_law_ 1612 = .ok (.iadd, 1) := by decide +kernel
theorem dL_law__1613 : decode cL_law_ 1613 = .ok (.iaload, 1) := by decide +kernel
theorem dL_law__1614 : decode cL_law_ 1614 = .ok (.invokevirtual 178, 3) := by decide +kernel
theorem dL_law__1617 : decode cL_law_ 1617 = .ok (.lstore 6, 2) := by decide +kernel
theorem dL_law__1619 : decode cL_law_ 1619 = .ok (.aload_n 2, 1) := by decide +kernel
theorem dL_law__1620 : decode cL_law_ 1620 = .ok (.invokevirtual 116, 3) := by decide +kernel
theorem dL_law__1623 : decode cL_law_ 1623 = .ok (.iload 5, 2) := by decide +kernel
theorem dL_law__1625 : decode cL_law_ 1625 = .ok (.if_icmp .eq 5, 3) := by decide +kernel
theorem dL_law__1628 : decode cL_law_ 1628 = .ok (.iconst 0, 1) := by decide +kernel
theorem dL_law__1629 : decode cL_law_ 1629 = .ok (.ireturn, 1) := by decide +kernel
theorem dL_law__1630 : decode cL_law_ 1630 = .ok (.iload 5, 2) := by decide +kernel
theorem dL_law__1632 : decode cL_law_ 1632 = .ok (.ifCond .ne 14, 3) := by decide +kernel
theorem dL_law__1635 : decode cL_law_ 1635 = .ok (.aload_n 3, 1) := by decide +kernel
theorem dL_law__1636 : decode cL_law_ 1636 = .ok (.iconst 0, 1) := by decide +kernel
theorem dL_law__1637 : decode cL_law_ 1637 = .ok (.laload, 1) := by decide +kernel
theorem dL_law__1638 : decode cL_law_ 1638 = .ok (.lload 6, 2) := by decide +kernel
theorem dL_law__1640 : decode cL_law_ 1640 = .ok (.lcmp, 1) := by decide +kernel
theorem dL_law__1641 : decode cL_law_ 1641 = .ok (.ifCond .eq 5, 3) := by decide +kernel
theorem dL_law__1644 : decode cL_law_ 1644 = .ok (.iconst 0, 1) := by decide +kernel
theorem dL_law__1645 : decode cL_law_ 1645 = .ok (.ireturn, 1) := by decide +kernel
theorem dL_law__1646 : decode cL_law_ 1646 = .ok (.goto 696, 3) := by decide +kernel
theorem dL_law__1649 : decode cL_law_ 1649 = .ok (.aload_n 1, 1) := by decide +kernel
theorem dL_law__1650 : decode cL_law_ 1650 = .ok (.aload_n 0, 1) := by decide +kernel
theorem dL_law__1651 : decode cL_law_ 1651 = .ok (.iload 4, 2) := by decide +kernel
theorem dL_law__1653 : decode cL_law_ 1653 = .ok (.iconst 1, 1) := by decide +kernel
theorem dL_law__1654 : decode cL_law_ 1654 = .ok (.iadd, 1) := by decide +kernel
theorem dL_law__1655 : decode cL_law_ 1655 = .ok (.iaload, 1) := by decide +kernel
theorem dL_law__1656 : decode cL_law_ 1656 = .ok (.aload_n 0, 1) := by decide +kernel
theorem dL_law__1657 : decode cL_law_ 1657 = .ok (.iload 4, 2) := by decide +kernel
theorem dL_law__1659 : decode cL_law_ 1659 = .ok (.iconst 2, 1) := by decide +kernel
theorem dL_law__1660 : decode cL_law_ 1660 = .ok (.iadd, 1) := by decide +kernel
theorem dL_law__1661 : decode cL_law_ 1661 = .ok (.iaload, 1) := by decide +kernel
theorem dL_law__1662 : decode cL_law_ 1662 = .ok (.aload_n 0, 1) := by decide +kernel
theorem dL_law__1663 : decode cL_law_ 1663 = .ok (.iload 4, 2) := by decide +kernel
theorem dL_law__1665 : decode cL_law_ 1665 = .ok (.iconst 3, 1) := by decide +kernel
theorem dL_law__1666 : decode cL_law_ 1666 = .ok (.iadd, 1) := by decide +kernel
theorem dL_law__1667 : decode cL_law_ 1667 = .ok (.iaload, 1) := by decide +kernel
theorem dL_law__1668 : decode cL_law_ 1668 = .ok (.aload_n 0, 1) := by decide +kernel
theorem dL_law__1669 : decode cL_law_ 1669 = .ok (.iload 4, 2) := by decide +kernel
theorem dL_law__1671 : decode cL_law_ 1671 = .ok (.iconst 4, 1) := by decide +kernel
theorem dL_law__1672 : decode cL_law_ 1672 = .ok (.iadd, 1) := by decide +kernel
theorem dL_law__1673 : decode cL_law_ 1673 = .ok (.iaload, 1) := by decide +kernel
theorem dL_law__1674 : decode cL_law_ 1674 = .ok (.aload_n 3, 1) := by decide +kernel
theorem dL_law__1675 : decode cL_law_ 1675 = .ok (.invokestatic 179, 3) := by decide +kernel
theorem dL_law__1678 : decode cL_law_ 1678 = .ok (.istore 5, 2) := by decide +kernel
theorem dL_law__1680 : decode cL_law_ 1680 = .ok (.aload_n 2, 1) := by decide +kernel
theorem dL_law__1681 : decode cL_law_ 1681 = .ok (.aload_n 0, 1) := by decide +kernel
theorem dL_law__1682 : decode cL_law_ 1682 = .ok (.iload 4, 2) := by decide +kernel
theorem dL_law__1684 : decode cL_law_ 1684 = .ok (.iconst 1, 1) := by decide +kernel
theorem dL_law__1685 : decode cL_law_ 1685 = .ok (.iadd, 1) := by decide +kernel
theorem dL_law__1686 : decode cL_law_ 1686 = .ok (.iaload, 1) := by decide +kernel
theorem dL_law__1687 : decode cL_law_ 1687 = .ok (.aload_n 0, 1) := by decide +kernel
theorem dL_law__1688 : decode cL_law_ 1688 = .ok (.iload 4, 2) := by decide +kernel
theorem dL_law__1690 : decode cL_law_ 1690 = .ok (.iconst 2, 1) := by decide +kernel
theorem dL_law__1691 : decode cL_law_ 1691 = .ok (.iadd, 1) := by decide +kernel
theorem dL_law__1692 : decode cL_law_ 1692 = .ok (.iaload, 1) := by decide +kernel
theorem dL_law__1693 : decode cL_law_ 1693 = .ok (.aload_n 0, 1) := by decide +kernel
theorem dL_law__1694 : decode cL_law_ 1694 = .ok (.iload 4, 2) := by decide +kernel
theorem dL_law__1696 : decode cL_law_ 1696 = .ok (.iconst 3, 1) := by decide +kernel
theorem dL_law__1697 : decode cL_law_ 1697 = .ok (.iadd, 1) := by decide +kernel
theorem dL_law__1698 : decode cL_law_ 1698 = .ok (.iaload, 1) := by decide +kernel
theorem dL_law__1699 : decode cL_law_ 1699 = .ok (.aload_n 0, 1) := by decide +kernel
theorem dL_law__1700 : decode cL_law_ 1700 = .ok (.iload 4, 2) := by decide +kernel
theorem dL_law__1702 : decode cL_law_ 1702 = .ok (.iconst 4, 1) := by decide +kernel
theorem dL_law__1703 : decode cL_law_ 1703 = .ok (.iadd, 1) := by decide +kernel
theorem dL_law__1704 : decode cL_law_ 1704 = .ok (.iaload, 1) := by decide +kernel
theorem dL_law__1705 : decode cL_law_ 1705 = .ok (.invokevirtual 181, 3) := by decide +kernel
theorem dL_law__1708 : decode cL_law_ 1708 = .ok (.lstore 6, 2) := by decide +kernel
theorem dL_law__1710 : decode cL_law_ 1710 = .ok (.aload_n 2, 1) := by decide +kernel
theorem dL_law__1711 : decode cL_law_ 1711 = .ok (.invokevirtual 116, 3) := by decide +kernel
theorem dL_law__1714 : decode cL_law_ 1714 = .ok (.iload 5, 2) := by decide +kernel
theorem dL_law__1716 : decode cL_law_ 1716 = .ok (.if_icmp .eq 5, 3) := by decide +kernel
theorem dL_law__1719 : decode cL_law_ 1719 = .ok (.iconst 0, 1) := by decide +kernel
theorem dL_law__1720 : decode cL_law_ 1720 = .ok (.ireturn, 1) := by decide +kernel
theorem dL_law__1721 : decode cL_law_ 1721 = .ok (.iload 5, 2) := by decide +kernel
theorem dL_law__1723 : decode cL_law_ 1723 = .ok (.ifCond .ne 14, 3) := by decide +kernel
theorem dL_law__1726 : decode cL_law_ 1726 = .ok (.aload_n 3, 1) := by decide +kernel
theorem dL_law__1727 : decode cL_law_ 1727 = .ok (.iconst 0, 1) := by decide +kernel
theorem dL_law__1728 : decode cL_law_ 1728 = .ok (.laload, 1) := by decide +kernel
theorem dL_law__1729 : decode cL_law_ 1729 = .ok (.lload 6, 2) := by decide +kernel
theorem dL_law__1731 : decode cL_law_ 1731 = .ok (.lcmp, 1) := by decide +kernel
theorem dL_law__1732 : decode cL_law_ 1732 = .ok (.ifCond .eq 5, 3) := by decide +kernel
theorem dL_law__1735 : decode cL_law_ 1735 = .ok (.iconst 0, 1) := by decide +kernel
theorem dL_law__1736 : decode cL_law_ 1736 = .ok (.ireturn, 1) := by decide +kernel
theorem dL_law__1737 : decode cL_law_ 1737 = .ok (.goto 605, 3) := by decide +kernel
theorem dL_law__1740 : decode cL_law_ 1740 = .ok (.aload_n 1, 1) := by decide +kernel
theorem dL_law__1741 : decode cL_law_ 1741 = .ok (.aload_n 0, 1) := by decide +kernel
theorem dL_law__1742 : decode cL_law_ 1742 = .ok (.iload 4, 2) := by decide +kernel
theorem dL_law__1744 : decode cL_law_ 1744 = .ok (.iconst 1, 1) := by decide +kernel
theorem dL_law__1745 : decode cL_law_ 1745 = .ok (.iadd, 1) := by decide +kernel
theorem dL_law__1746 : decode cL_law_ 1746 = .ok (.iaload, 1) := by decide +kernel
theorem dL_law__1747 : decode cL_law_ 1747 = .ok (.aload_n 0, 1) := by decide +kernel
theorem dL_law__1748 : decode cL_law_ 1748 = .ok (.iload 4, 2) := by decide +kernel
theorem dL_law__1750 : decode cL_law_ 1750 = .ok (.iconst 2, 1) := by decide +kernel
theorem dL_law__1751 : decode cL_law_ 1751 = .ok (.iadd, 1) := by decide +kernel
theorem dL_law__1752 : decode cL_law_ 1752 = .ok (.iaload, 1) := by decide +kernel
theorem dL_law__1753 : decode cL_law_ 1753 = .ok (.aload_n 0, 1) := by decide +kernel
theorem dL_law__1754 : decode cL_law_ 1754 = .ok (.iload 4, 2) := by decide +kernel
theorem dL_law__1756 : decode cL_law_ 1756 = .ok (.iconst 3, 1) := by decide +kernel
theorem dL_law__1757 : decode cL_law_ 1757 = .ok (.iadd, 1) := by decide +kernel
theorem dL_law__1758 : decode cL_law_ 1758 = .ok (.iaload, 1) := by decide +kernel
theorem dL_law__1759 : decode cL_law_ 1759 = .ok (.aload_n 3, 1) := by decide +kernel
theorem dL_law__1760 : decode cL_law_ 1760 = .ok (.invokestatic 182, 3) := by decide +kernel
theorem dL_law__1763 : decode cL_law_ 1763 = .ok (.istore 5, 2) := by decide +kernel
theorem dL_law__1765 : decode cL_law_ 1765 = .ok (.aload_n 2, 1) := by decide +kernel
theorem dL_law__1766 : decode cL_law_ 1766 = .ok (.aload_n 0, 1) := by decide +kernel
theorem dL_law__1767 : decode cL_law_ 1767 = .ok (.iload 4, 2) := by decide +kernel
theorem dL_law__1769 : decode cL_law_ 1769 = .ok (.iconst 1, 1) := by decide +kernel
theorem dL_law__1770 : decode cL_law_ 1770 = .ok (.iadd, 1) := by decide +kernel
theorem dL_law__1771 : decode cL_law_ 1771 = .ok (.iaload, 1) := by decide +kernel
theorem dL_law__1772 : decode cL_law_ 1772 = .ok (.aload_n 0, 1) := by decide +kernel
theorem dL_law__1773 : decode cL_law_ 1773 = .ok (.iload 4, 2) := by decide +kernel
theorem dL_law__1775 : decode cL_law_ 1775 = .ok (.iconst 2, 1) := by decide +kernel
theorem dL_law__1776 : decode cL_law_ 1776 = .ok (.iadd, 1) := by decide +kernel
theorem dL_law__1777 : decode cL_law_ 1777 = .ok (.iaload, 1) := by decide +kernel
theorem dL_law__1778 : decode cL_law_ 1778 = .ok (.aload_n 0, 1) := by decide +kernel
theorem dL_law__1779 : decode cL_law_ 1779 = .ok (.iload 4, 2) := by decide +kernel
theorem dL_law__1781 : decode cL_law_ 1781 = .ok (.iconst 3, 1) := by decide +kernel
theorem dL_law__1782 : decode cL_law_ 1782 = .ok (.iadd, 1) := by decide +kernel
theorem dL_law__1783 : decode cL_law_ 1783 = .ok (.iaload, 1) := by decide +kernel
theorem dL_law__1784 : decode cL_law_ 1784 = .ok (.invokevirtual 184, 3) := by decide +kernel
theorem dL_law__1787 : decode cL_law_ 1787 = .ok (.lstore 6, 2) := by decide +kernel
theorem dL_law__1789 : decode cL_law_ 1789 = .ok (.aload_n 2, 1) := by decide +kernel
theorem dL_law__1790 : decode cL_law_ 1790 = .ok (.invokevirtual 116, 3) := by decide +kernel
theorem dL_law__1793 : decode cL_law_ 1793 = .ok (.iload 5, 2) := by decide +kernel
theorem dL_law__1795 : decode cL_law_ 1795 = .ok (.if_icmp .eq 5, 3) := by decide +kernel
theorem dL_law__1798 : decode cL_law_ 1798 = .ok (.iconst 0, 1) := by decide +kernel
theorem dL_law__1799 : decode cL_law_ 1799 = .ok (.ireturn, 1) := by decide +kernel
theorem dL_law__1800 : decode cL_law_ 1800 = .ok (.iload 5, 2) := by decide +kernel
theorem dL_law__1802 : decode cL_law_ 1802 = .ok (.ifCond .ne 14, 3) := by decide +kernel
theorem dL_law__1805 : decode cL_law_ 1805 = .ok (.aload_n 3, 1) := by decide +kernel
theorem dL_law__1806 : decode cL_law_ 1806 = .ok (.iconst 0, 1) := by decide +kernel
theorem dL_law__1807 : decode cL_law_ 1807 = .ok (.laload, 1) := by decide +kernel
theorem dL_law__1808 : decode cL_law_ 1808 = .ok (.lload 6, 2) := by decide +kernel
theorem dL_law__1810 : decode cL_law_ 1810 = .ok (.lcmp, 1) := by decide +kernel
theorem dL_law__1811 : decode cL_law_ 1811 = .ok (.ifCond .eq 5, 3) := by decide +kernel
theorem dL_law__1814 : decode cL_law_ 1814 = .ok (.iconst 0, 1) := by decide +kernel
theorem dL_law__1815 : decode cL_law_ 1815 = .ok (.ireturn, 1) := by decide +kernel
theorem dL_law__1816 : decode cL_law_ 1816 = .ok (.goto 526, 3) := by decide +kernel
theorem dL_law__1819 : decode cL_law_ 1819 = .ok (.aload_n 1, 1) := by decide +kernel
theorem dL_law__1820 : decode cL_law_ 1820 = .ok (.aload_n 0, 1) := by decide +kernel
theorem dL_law__1821 : decode cL_law_ 1821 = .ok (.iload 4, 2) := by decide +kernel
theorem dL_law__1823 : decode cL_law_ 1823 = .ok (.iconst 1, 1) := by decide +kernel
theorem dL_law__1824 : decode cL_law_ 1824 = .ok (.iadd, 1) := by decide +kernel
theorem dL_law__1825 : decode cL_law_ 1825 = .ok (.iaload, 1) := by decide +kernel
theorem dL_law__1826 : decode cL_law_ 1826 = .ok (.aload_n 0, 1) := by decide +kernel
theorem dL_law__1827 : decode cL_law_ 1827 = .ok (.iload 4, 2) := by decide +kernel
theorem dL_law__1829 : decode cL_law_ 1829 = .ok (.iconst 2, 1) := by decide +kernel
theorem dL_law__1830 : decode cL_law_ 1830 = .ok (.iadd, 1) := by decide +kernel
theorem dL_law__1831 : decode cL_law_ 1831 = .ok (.iaload, 1) := by decide +kernel
theorem dL_law__1832 : decode cL_law_ 1832 = .ok (.aload_n 3, 1) := by decide +kernel
theorem dL_law__1833 : decode cL_law_ 1833 = .ok (.invokestatic 185, 3) := by decide +kernel
theorem dL_law__1836 : decode cL_law_ 1836 = .ok (.istore 5, 2) := by decide +kernel
theorem dL_law__1838 : decode cL_law_ 1838 = .ok (.aload_n 2, 1) := by decide +kernel
theorem dL_law__1839 : decode cL_law_ 1839 = .ok (.aload_n 0, 1) := by decide +kernel
theorem dL_law__1840 : decode cL_law_ 1840 = .ok (.iload 4, 2) := by decide +kernel
theorem dL_law__1842 : decode cL_law_ 1842 = .ok (.iconst 1, 1) := by decide +kernel
theorem dL_law__1843 : decode cL_law_ 1843 = .ok (.iadd, 1) := by decide +kernel
theorem dL_law__1844 : decode cL_law_ 1844 = .ok (.iaload, 1) := by decide +kernel
theorem dL_law__1845 : decode cL_law_ 1845 = .ok (.aload_n 0, 1) := by decide +kernel
theorem dL_law__1846 : decode cL_law_ 1846 = .ok (.iload 4, 2) := by decide +kernel
theorem dL_law__1848 : decode cL_law_ 1848 = .ok (.iconst 2, 1) := by decide +kernel
theorem dL_law__1849 : decode cL_law_ 1849 = .ok (.iadd, 1) := by decide +kernel
theorem dL_law__1850 : decode cL_law_ 1850 = .ok (.iaload, 1) := by decide +kernel
theorem dL_law__1851 : decode cL_law_ 1851 = .ok (.invokevirtual 187, 3) := by decide +kernel
theorem dL_law__1854 : decode cL_law_ 1854 = .ok (.istore 6, 2) := by decide +kernel
theorem dL_law__1856 : decode cL_law_ 1856 = .ok (.aload_n 2, 1) := by decide +kernel
theorem dL_law__1857 : decode cL_law_ 1857 = .ok (.invokevirtual 116, 3) := by decide +kernel
theorem dL_law__1860 : decode cL_law_ 1860 = .ok (.iload 5, 2) := by decide +kernel
theorem dL_law__1862 : decode cL_law_ 1862 = .ok (.if_icmp .eq 5, 3) := by decide +kernel
theorem dL_law__1865 : decode cL_law_ 1865 = .ok (.iconst 0, 1) := by decide +kernel
theorem dL_law__1866 : decode cL_law_ 1866 = .ok (.ireturn, 1) := by decide +kernel
theorem dL_law__1867 : decode cL_law_ 1867 = .ok (.iload 5, 2) := by decide +kernel
theorem dL_law__1869 : decode cL_law_ 1869 = .ok (.ifCond .ne 15, 3) := by decide +kernel
theorem dL_law__1872 : decode cL_law_ 1872 = .ok (.aload_n 3, 1) := by decide +kernel
theorem dL_law__1873 : decode cL_law_ 1873 = .ok (.iconst 0, 1) := by decide +kernel
theorem dL_law__1874 : decode cL_law_ 1874 = .ok (.laload, 1) := by decide +kernel
theorem dL_law__1875 : decode cL_law_ 1875 = .ok (.iload 6, 2) := by decide +kernel
theorem dL_law__1877 : decode cL_law_ 1877 = .ok (.i2l, 1) := by decide +kernel
theorem dL_law__1878 : decode cL_law_ 1878 = .ok (.lcmp, 1) := by decide +kernel
theorem dL_law__1879 : decode cL_law_ 1879 = .ok (.ifCond .eq 5, 3) := by decide +kernel
theorem dL_law__1882 : decode cL_law_ 1882 = .ok (.iconst 0, 1) := by decide +kernel
theorem dL_law__1883 : decode cL_law_ 1883 = .ok (.ireturn, 1) := by decide +kernel
theorem dL_law__1884 : decode cL_law_ 1884 = .ok (.goto 458, 3) := by decide +kernel
theorem dL_law__1887 : decode cL_law_ 1887 = .ok (.aload_n 1, 1) := by decide +kernel
theorem dL_law__1888 : decode cL_law_ 1888 = .ok (.aload_n 0, 1) := by decide +kernel
theorem dL_law__1889 : decode cL_law_ 1889 = .ok (.iload 4, 2) := by decide +kernel
