theorem dX0_init_0 : decode cX0_init 0 = .ok (.aload_n 0, 1) := by decide +kernel
theorem dX0_init_1 : decode cX0_init 1 = .ok (.invokespecial 3, 3) := by decide +kernel
theorem dX0_init_4 : decode cX0_init 4 = .ok (.aload_n 0, 1) := by decide +kernel
theorem dX0_init_5 : decode cX0_init 5 = .ok (.iconst 0, 1) := by decide +kernel
theorem dX0_init_6 : decode cX0_init 6 = .ok (.putfield 9, 3) := by decide +kernel
theorem dX0_init_9 : decode cX0_init 9 = .ok (.aload_n 0, 1) := by decide +kernel
theorem dX0_init_10 : decode cX0_init 10 = .ok (.bipush 30, 2) := by decide +kernel
theorem dX0_init_12 : decode cX0_init 12 = .ok (.newarray .int, 2) := by decide +kernel
theorem dX0_init_14 : decode cX0_init 14 = .ok (.putfield 15, 3) := by decide +kernel
theorem dX0_init_17 : decode cX0_init 17 = .ok (.aload_n 0, 1) := by decide +kernel
theorem dX0_init_18 : decode cX0_init 18 = .ok (.bipush 30, 2) := by decide +kernel
theorem dX0_init_20 : decode cX0_init 20 = .ok (.newarray .int, 2) := by decide +kernel
theorem dX0_init_22 : decode cX0_init 22 = .ok (.putfield 19, 3) := by decide +kernel
theorem dX0_init_25 : decode cX0_init 25 = .ok (.aload_n 0, 1) := by decide +kernel
theorem dX0_init_26 : decode cX0_init 26 = .ok (.bipush 10, 2) := by decide +kernel
theorem dX0_init_28 : decode cX0_init 28 = .ok (.newarray .int, 2) := by decide +kernel
theorem dX0_init_30 : decode cX0_init 30 = .ok (.putfield 24, 3) := by decide +kernel
theorem dX0_init_33 : decode cX0_init 33 = .ok (.aload_n 0, 1) := by decide +kernel
theorem dX0_init_34 : decode cX0_init 34 = .ok (.iconst 0, 1) := by decide +kernel
theorem dX0_init_35 : decode cX0_init 35 = .ok (.putfield 27, 3) := by decide +kernel
theorem dX0_init_38 : decode cX0_init 38 = .ok (.aload_n 0, 1) := by decide +kernel
theorem dX0_init_39 : decode cX0_init 39 = .ok (.iconst 0, 1) := by decide +kernel
theorem dX0_init_40 : decode cX0_init 40 = .ok (.putfield 30, 3) := by decide +kernel
theorem dX0_init_43 : decode cX0_init 43 = .ok (.aload_n 0, 1) := by decide +kernel
theorem dX0_init_44 : decode cX0_init 44 = .ok (.iconst 0, 1) := by decide +kernel
theorem dX0_init_45 : decode cX0_init 45 = .ok (.putfield 33, 3) := by decide +kernel
theorem dX0_init_48 : decode cX0_init 48 = .ok (.aload_n 0, 1) := by decide +kernel
theorem dX0_init_49 : decode cX0_init 49 = .ok (.iconst 0, 1) := by decide +kernel
theorem dX0_init_50 : decode cX0_init 50 = .ok (.putfield 36, 3) := by decide +kernel
theorem dX0_init_53 : decode cX0_init 53 = .ok (.aload_n 0, 1) := by decide +kernel
theorem dX0_init_54 : decode cX0_init 54 = .ok (.iconst 0, 1) := by decide +kernel
theorem dX0_init_55 : decode cX0_init 55 = .ok (.putfield 40, 3) := by decide +kernel
theorem dX0_init_58 : decode cX0_init 58 = .ok (.aload_n 0, 1) := by decide +kernel
theorem dX0_init_59 : decode cX0_init 59 = .ok (.iconst 0, 1) := by decide +kernel
theorem dX0_init_60 : decode cX0_init 60 = .ok (.putfield 43, 3) := by decide +kernel
theorem dX0_init_63 : decode cX0_init 63 = .ok (.aload_n 0, 1) := by decide +kernel
theorem dX0_init_64 : decode cX0_init 64 = .ok (.bipush 30, 2) := by decide +kernel
theorem dX0_init_66 : decode cX0_init 66 = .ok (.newarray .int, 2) := by decide +kernel
theorem dX0_init_68 : decode cX0_init 68 = .ok (.putfield 46, 3) := by decide +kernel
theorem dX0_init_71 : decode cX0_init 71 = .ok (.aload_n 0, 1) := by decide +kernel
theorem dX0_init_72 : decode cX0_init 72 = .ok (.bipush 30, 2) := by decide +kernel
theorem dX0_init_74 : decode cX0_init 74 = .ok (.newarray .int, 2) := by decide +kernel
theorem dX0_init_76 : decode cX0_init 76 = .ok (.putfield 49, 3) := by decide +kernel
theorem dX0_init_79 : decode cX0_init 79 = .ok (.aload_n 0, 1) := by decide +kernel
theorem dX0_init_80 : decode cX0_init 80 = .ok (.bipush 30, 2) := by decide +kernel
theorem dX0_init_82 : decode cX0_init 82 = .ok (.newarray .int, 2) := by decide +kernel
theorem dX0_init_84 : decode cX0_init 84 = .ok (.putfield 52, 3) := by decide +kernel
theorem dX0_init_87 : decode cX0_init 87 = .ok (.aload_n 0, 1) := by decide +kernel
theorem dX0_init_88 : decode cX0_init 88 = .ok (.bipush 30, 2) := by decide +kernel
theorem dX0_init_90 : decode cX0_init 90 = .ok (.newarray .int, 2) := by decide +kernel
theorem dX0_init_92 : decode cX0_init 92 = .ok (.putfield 55, 3) := by decide +kernel
theorem dX0_init_95 : decode cX0_init 95 = .ok (.aload_n 0, 1) := by decide +kernel
theorem dX0_init_96 : decode cX0_init 96 = .ok (.bipush 30, 2) := by decide +kernel
theorem dX0_init_98 : decode cX0_init 98 = .ok (.newarray .int, 2) := by decide +kernel
theorem dX0_init_100 : decode cX0_init 100 = .ok (.putfield 58, 3) := by decide +kernel
theorem dX0_init_103 : decode cX0_init 103 = .ok (.aload_n 0, 1) := by decide +kernel
theorem dX0_init_104 : decode cX0_init 104 = .ok (.bipush 30, 2) := by decide +kernel
theorem dX0_init_106 : decode cX0_init 106 = .ok (.newarray .int, 2) := by decide +kernel
theorem dX0_init_108 : decode cX0_init 108 = .ok (.putfield 61, 3) := by decide +kernel
theorem dX0_init_111 : decode cX0_init 111 = .ok (.aload_n 0, 1) := by decide +kernel
theorem dX0_init_112 : decode cX0_init 112 = .ok (.aload_n 1, 1) := by decide +kernel
theorem dX0_init_113 : decode cX0_init 113 = .ok (.putfield 64, 3) := by decide +kernel
theorem dX0_init_116 : decode cX0_init 116 = .ok (.aload_n 0, 1) := by decide +kernel
theorem dX0_init_117 : decode cX0_init 117 = .ok (.aload_n 1, 1) := by decide +kernel
theorem dX0_init_118 : decode cX0_init 118 = .ok (.iconst (-1), 1) := by decide +kernel
theorem dX0_init_119 : decode cX0_init 119 = .ok (.invokevirtual 68, 3) := by decide +kernel
theorem dX0_init_122 : decode cX0_init 122 = .ok (.putfield 74, 3) := by decide +kernel
theorem dX0_init_125 : decode cX0_init 125 = .ok (.aload_n 0, 1) := by decide +kernel
theorem dX0_init_126 : decode cX0_init 126 = .ok (.aload_n 1, 1) := by decide +kernel
theorem dX0_init_127 : decode cX0_init 127 = .ok (.iconst (-1), 1) := by decide +kernel
theorem dX0_init_128 : decode cX0_init 128 = .ok (.invokevirtual 78, 3) := by decide +kernel
theorem dX0_init_131 : decode cX0_init 131 = .ok (.putfield 82, 3) := by decide +kernel
theorem dX0_init_134 : decode cX0_init 134 = .ok (.return_, 1) := by decide +kernel
theorem dX0_open_0 : decode cX0_open 0 = .ok (.aload_n 0, 1) := by decide +kernel
theorem dX0_open_1 : decode cX0_open 1 = .ok (.iload_n 1, 1) := by decide +kernel
theorem dX0_open_2 : decode cX0_open 2 = .ok (.putfield 9, 3) := by decide +kernel
theorem dX0_open_5 : decode cX0_open 5 = .ok (.iconst 0, 1) := by decide +kernel
theorem dX0_open_6 : decode cX0_open 6 = .ok (.istore_n 2, 1) := by decide +kernel
theorem dX0_open_7 : decode cX0_open 7 = .ok (.iload_n 2, 1) := by decide +kernel
theorem dX0_open_8 : decode cX0_open 8 = .ok (.bipush 30, 2) := by decide +kernel
theorem dX0_open_10 : decode cX0_open 10 = .ok (.if_icmp .ge 25, 3) := by decide +kernel
theorem dX0_open_13 : decode cX0_open 13 = .ok (.aload_n 0, 1) := by decide +kernel
theorem dX0_open_14 : decode cX0_open 14 = .ok (.getfield 15, 3) := by decide +kernel
theorem dX0_open_17 : decode cX0_open 17 = .ok (.iload_n 2, 1) := by decide +kernel
theorem dX0_open_18 : decode cX0_open 18 = .ok (.ldc 86, 2) := by decide +kernel
theorem dX0_open_20 : decode cX0_open 20 = .ok (.iastore, 1) := by decide +kernel
theorem dX0_open_21 : decode cX0_open 21 = .ok (.aload_n 0, 1) := by decide +kernel
theorem dX0_open_22 : decode cX0_open 22 = .ok (.getfield 19, 3) := by decide +kernel
theorem dX0_open_25 : decode cX0_open 25 = .ok (.iload_n 2, 1) := by decide +kernel
theorem dX0_open_26 : decode cX0_open 26 = .ok (.ldc 86, 2) := by decide +kernel
theorem dX0_open_28 : decode cX0_open 28 = .ok (.iastore, 1) := by decide +kernel
theorem dX0_open_29 : decode cX0_open 29 = .ok (.iinc 2 1, 3) := by decide +kernel
theorem dX0_open_32 : decode cX0_open 32 = .ok (.goto (-25), 3) := by decide +kernel
theorem dX0_open_35 : decode cX0_open 35 = .ok (.iconst 0, 1) := by decide +kernel
theorem dX0_open_36 : decode cX0_open 36 = .ok (.istore_n 2, 1) := by decide +kernel
theorem dX0_open_37 : decode cX0_open 37 = .ok (.iload_n 2, 1) := by decide +kernel
theorem dX0_open_38 : decode cX0_open 38 = .ok (.aload_n 0, 1) := by decide +kernel
theorem dX0_open_39 : decode cX0_open 39 = .ok (.getfield 64, 3) := by decide +kernel
theorem dX0_open_42 : decode cX0_open 42 = .ok (.getfield 87, 3) := by decide +kernel
theorem dX0_open_45 : decode cX0_open 45 = .ok (.if_icmp .ge 72, 3) := by decide +kernel
theorem dX0_open_48 : decode cX0_open 48 = .ok (.aload_n 0, 1) := by decide +kernel
theorem dX0_open_49 : decode cX0_open 49 = .ok (.getfield 64, 3) := by decide +kernel
theorem dX0_open_52 : decode cX0_open 52 = .ok (.iload_n 2, 1) := by decide +kernel
theorem dX0_open_53 : decode cX0_open 53 = .ok (.invokevirtual 68, 3) := by decide +kernel
theorem dX0_open_56 : decode cX0_open 56 = .ok (.astore_n 3, 1) := by decide +kernel
theorem dX0_open_57 : decode cX0_open 57 = .ok (.aload_n 3, 1) := by decide +kernel
theorem dX0_open_58 : decode cX0_open 58 = .ok (.getfield 90, 3) := by decide +kernel
theorem dX0_open_61 : decode cX0_open 61 = .ok (.ifCond .ne 50, 3) := by decide +kernel
theorem dX0_open_64 : decode cX0_open 64 = .ok (.aload_n 3, 1) := by decide +kernel
theorem dX0_open_65 : decode cX0_open 65 = .ok (.iload_n 1, 1) := by decide +kernel
theorem dX0_open_66 : decode cX0_open 66 = .ok (.invokevirtual 95, 3) := by decide +kernel
theorem dX0_open_69 : decode cX0_open 69 = .ok (.ifCond .eq 42, 3) := by decide +kernel
theorem dX0_open_72 : decode cX0_open 72 = .ok (.aload_n 3, 1) := by decide +kernel
theorem dX0_open_73 : decode cX0_open 73 = .ok (.getfield 99, 3) := by decide +kernel
theorem dX0_open_76 : decode cX0_open 76 = .ok (.iconst 0, 1) := by decide +kernel
theorem dX0_open_77 : decode cX0_open 77 = .ok (.bipush 29, 2) := by decide +kernel
theorem dX0_open_79 : decode cX0_open 79 = .ok (.invokestatic 102, 3) := by decide +kernel
theorem dX0_open_82 : decode cX0_open 82 = .ok (.ifCond .eq 29, 3) := by decide +kernel
theorem dX0_open_85 : decode cX0_open 85 = .ok (.aload_n 0, 1) := by decide +kernel
theorem dX0_open_86 : decode cX0_open 86 = .ok (.getfield 15, 3) := by decide +kernel
theorem dX0_open_89 : decode cX0_open 89 = .ok (.aload_n 3, 1) := by decide +kernel
theorem dX0_open_90 : decode cX0_open 90 = .ok (.getfield 99, 3) := by decide +kernel
theorem dX0_open_93 : decode cX0_open 93 = .ok (.aload_n 3, 1) := by decide +kernel
theorem dX0_open_94 : decode cX0_open 94 = .ok (.getfield 106, 3) := by decide +kernel
theorem dX0_open_97 : decode cX0_open 97 = .ok (.iastore, 1) := by decide +kernel
theorem dX0_open_98 : decode cX0_open 98 = .ok (.aload_n 0, 1) := by decide +kernel
theorem dX0_open_99 : decode cX0_open 99 = .ok (.getfield 19, 3) := by decide +kernel
theorem dX0_open_102 : decode cX0_open 102 = .ok (.aload_n 3, 1) := by decide +kernel
theorem dX0_open_103 : decode cX0_open 103 = .ok (.getfield 99, 3) := by decide +kernel
theorem dX0_open_106 : decode cX0_open 106 = .ok (.aload_n 3, 1) := by decide +kernel
theorem dX0_open_107 : decode cX0_open 107 = .ok (.getfield 109, 3) := by decide +kernel
theorem dX0_open_110 : decode cX0_open 110 = .ok (.iastore, 1) := by decide +kernel
theorem dX0_open_111 : decode cX0_open 111 = .ok (.iinc 2 1, 3) := by decide +kernel
theorem dX0_open_114 : decode cX0_open 114 = .ok (.goto (-77), 3) := by decide +kernel
theorem dX0_open_117 : decode cX0_open 117 = .ok (.return_, 1) := by decide +kernel
theorem dX0_settle_0 : decode cX0_settle 0 = .ok (.aload_n 0, 1) := by decide +kernel
theorem dX0_settle_1 : decode cX0_settle 1 = .ok (.aload_n 1, 1) := by decide +kernel
theorem dX0_settle_2 : decode cX0_settle 2 = .ok (.invokevirtual 112, 3) := by decide +kernel
theorem dX0_settle_5 : decode cX0_settle 5 = .ok (.aload_n 0, 1) := by decide +kernel
theorem dX0_settle_6 : decode cX0_settle 6 = .ok (.getfield 64, 3) := by decide +kernel
theorem dX0_settle_9 : decode cX0_settle 9 = .ok (.aload_n 0, 1) := by decide +kernel
theorem dX0_settle_10 : decode cX0_settle 10 = .ok (.getfield 64, 3) := by decide +kernel
theorem dX0_settle_13 : decode cX0_settle 13 = .ok (.aload_n 1, 1) := by decide +kernel
theorem dX0_settle_14 : decode cX0_settle 14 = .ok (.getfield 116, 3) := by decide +kernel
theorem dX0_settle_17 : decode cX0_settle 17 = .ok (.aload_n 1, 1) := by decide +kernel
theorem dX0_settle_18 : decode cX0_settle 18 = .ok (.getfield 106, 3) := by decide +kernel
theorem dX0_settle_21 : decode cX0_settle 21 = .ok (.aload_n 0, 1) := by decide +kernel
theorem dX0_settle_22 : decode cX0_settle 22 = .ok (.getfield 9, 3) := by decide +kernel
theorem dX0_settle_25 : decode cX0_settle 25 = .ok (.invokevirtual 119, 3) := by decide +kernel
theorem dX0_settle_28 : decode cX0_settle 28 = .ok (.invokevirtual 123, 3) := by decide +kernel
theorem dX0_settle_31 : decode cX0_settle 31 = .ok (.astore_n 3, 1) := by decide +kernel
theorem dX0_settle_32 : decode cX0_settle 32 = .ok (.aload_n 0, 1) := by decide +kernel
theorem dX0_settle_33 : decode cX0_settle 33 = .ok (.aload_n 3, 1) := by decide +kernel
theorem dX0_settle_34 : decode cX0_settle 34 = .ok (.invokevirtual 127, 3) := by decide +kernel
theorem dX0_settle_37 : decode cX0_settle 37 = .ok (.aload_n 0, 1) := by decide +kernel
theorem dX0_settle_38 : decode cX0_settle 38 = .ok (.invokevirtual 131, 3) := by decide +kernel
theorem dX0_settle_41 : decode cX0_settle 41 = .ok (.aload_n 0, 1) := by decide +kernel
theorem dX0_settle_42 : decode cX0_settle 42 = .ok (.aload_n 3, 1) := by decide +kernel
theorem dX0_settle_43 : decode cX0_settle 43 = .ok (.iload_n 2, 1) := by decide +kernel
theorem dX0_settle_44 : decode cX0_settle 44 = .ok (.invokevirtual 134, 3) := by decide +kernel
theorem dX0_settle_47 : decode cX0_settle 47 = .ok (.return_, 1) := by decide +kernel
theorem dX0_look_0 : decode cX0_look 0 = .ok (.aload_n 0, 1) := by decide +kernel
theorem dX0_look_1 : decode cX0_look 1 = .ok (.aload_n 1, 1) := by decide +kernel
theorem dX0_look_2 : decode cX0_look 2 = .ok (.putfield 74, 3) := by decide +kernel
theorem dX0_look_5 : decode cX0_look 5 = .ok (.aload_n 0, 1) := by decide +kernel
theorem dX0_look_6 : decode cX0_look 6 = .ok (.aload_n 0, 1) := by decide +kernel
theorem dX0_look_7 : decode cX0_look 7 = .ok (.getfield 64, 3) := by decide +kernel
theorem dX0_look_10 : decode cX0_look 10 = .ok (.aload_n 1, 1) := by decide +kernel
theorem dX0_look_11 : decode cX0_look 11 = .ok (.getfield 138, 3) := by decide +kernel
theorem dX0_look_14 : decode cX0_look 14 = .ok (.invokevirtual 78, 3) := by decide +kernel
theorem dX0_look_17 : decode cX0_look 17 = .ok (.putfield 82, 3) := by decide +kernel
theorem dX0_look_20 : decode cX0_look 20 = .ok (.aload_n 0, 1) := by decide +kernel
theorem dX0_look_21 : decode cX0_look 21 = .ok (.aload_n 1, 1) := by decide +kernel
theorem dX0_look_22 : decode cX0_look 22 = .ok (.getfield 141, 3) := by decide +kernel
theorem dX0_look_25 : decode cX0_look 25 = .ok (.i2l, 1) := by decide +kernel
theorem dX0_look_26 : decode cX0_look 26 = .ok (.aload_n 0, 1) := by decide +kernel
theorem dX0_look_27 : decode cX0_look 27 = .ok (.getfield 64, 3) := by decide +kernel
theorem dX0_look_30 : decode cX0_look 30 = .ok (.aload_n 1, 1) := by decide +kernel
theorem dX0_look_31 : decode cX0_look 31 = .ok (.getfield 116, 3) := by decide +kernel
theorem dX0_look_34 : decode cX0_look 34 = .ok (.aload_n 1, 1) := by decide +kernel
theorem dX0_look_35 : decode cX0_look 35 = .ok (.getfield 106, 3) := by decide +kernel
theorem dX0_look_38 : decode cX0_look 38 = .ok (.invokevirtual 142, 3) := by decide +kernel
theorem dX0_look_41 : decode cX0_look 41 = .ok (.i2l, 1) := by decide +kernel
theorem dX0_look_42 : decode cX0_look 42 = .ok (.lmul, 1) := by decide +kernel
theorem dX0_look_43 : decode cX0_look 43 = .ok (.ldc2_w 146, 3) := by decide +kernel
theorem dX0_look_46 : decode cX0_look 46 = .ok (.ldiv, 1) := by decide +kernel
theorem dX0_look_47 : decode cX0_look 47 = .ok (.l2i, 1) := by decide +kernel
theorem dX0_look_48 : decode cX0_look 48 = .ok (.putfield 27, 3) := by decide +kernel
theorem dX0_look_51 : decode cX0_look 51 = .ok (.aload_n 0, 1) := by decide +kernel
theorem dX0_look_52 : decode cX0_look 52 = .ok (.iconst 0, 1) := by decide +kernel
theorem dX0_look_53 : decode cX0_look 53 = .ok (.putfield 33, 3) := by decide +kernel
theorem dX0_look_56 : decode cX0_look 56 = .ok (.iconst (-1), 1) := by decide +kernel
theorem dX0_look_57 : decode cX0_look 57 = .ok (.istore_n 2, 1) := by decide +kernel
theorem dX0_look_58 : decode cX0_look 58 = .ok (.iconst 0, 1) := by decide +kernel
theorem dX0_look_59 : decode cX0_look 59 = .ok (.istore_n 3, 1) := by decide +kernel
theorem dX0_look_60 : decode cX0_look 60 = .ok (.iconst 0, 1) := by decide +kernel
theorem dX0_look_61 : decode cX0_look 61 = .ok (.istore 4, 2) := by decide +kernel
theorem dX0_look_63 : decode cX0_look 63 = .ok (.iload 4, 2) := by decide +kernel
theorem dX0_look_65 : decode cX0_look 65 = .ok (.aload_n 0, 1) := by decide +kernel
theorem dX0_look_66 : decode cX0_look 66 = .ok (.getfield 64, 3) := by decide +kernel
theorem dX0_look_69 : decode cX0_look 69 = .ok (.getfield 87, 3) := by decide +kernel
theorem dX0_look_72 : decode cX0_look 72 = .ok (.if_icmp .ge 143, 3) := by decide +kernel
theorem dX0_look_75 : decode cX0_look 75 = .ok (.aload_n 0, 1) := by decide +kernel
theorem dX0_look_76 : decode cX0_look 76 = .ok (.getfield 64, 3) := by decide +kernel
theorem dX0_look_79 : decode cX0_look 79 = .ok (.iload 4, 2) := by decide +kernel
theorem dX0_look_81 : decode cX0_look 81 = .ok (.invokevirtual 68, 3) := by decide +kernel
theorem dX0_look_84 : decode cX0_look 84 = .ok (.astore 5, 2) := by decide +kernel
theorem dX0_look_86 : decode cX0_look 86 = .ok (.aload 5, 2) := by decide +kernel
theorem dX0_look_88 : decode cX0_look 88 = .ok (.aload_n 1, 1) := by decide +kernel
theorem dX0_look_89 : decode cX0_look 89 = .ok (.getfield 138, 3) := by decide +kernel
theorem dX0_look_92 : decode cX0_look 92 = .ok (.invokevirtual 148, 3) := by decide +kernel
theorem dX0_look_95 : decode cX0_look 95 = .ok (.ifCond .eq 114, 3) := by decide +kernel
theorem dX0_look_98 : decode cX0_look 98 = .ok (.aload 5, 2) := by decide +kernel
theorem dX0_look_100 : decode cX0_look 100 = .ok (.getfield 106, 3) := by decide +kernel
theorem dX0_look_103 : decode cX0_look 103 = .ok (.aload_n 1, 1) := by decide +kernel
theorem dX0_look_104 : decode cX0_look 104 = .ok (.getfield 106, 3) := by decide +kernel
theorem dX0_look_107 : decode cX0_look 107 = .ok (.if_icmp .ge 102, 3) := by decide +kernel
theorem dX0_look_110 : decode cX0_look 110 = .ok (.aload 5, 2) := by decide +kernel
theorem dX0_look_112 : decode cX0_look 112 = .ok (.aload_n 0, 1) := by decide +kernel
theorem dX0_look_113 : decode cX0_look 113 = .ok (.getfield 9, 3) := by decide +kernel
theorem dX0_look_116 : decode cX0_look 116 = .ok (.invokevirtual 95, 3) := by decide +kernel
theorem dX0_look_119 : decode cX0_look 119 = .ok (.ifCond .ne 6, 3) := by decide +kernel
theorem dX0_look_122 : decode cX0_look 122 = .ok (.goto 87, 3) := by decide +kernel
theorem dX0_look_125 : decode cX0_look 125 = .ok (.aload 5, 2) := by decide +kernel
theorem dX0_look_127 : decode cX0_look 127 = .ok (.getfield 90, 3) := by decide +kernel
theorem dX0_look_130 : decode cX0_look 130 = .ok (.iconst 2, 1) := by decide +kernel
theorem dX0_look_131 : decode cX0_look 131 = .ok (.if_icmp .ne 29, 3) := by decide +kernel
theorem dX0_look_134 : decode cX0_look 134 = .ok (.aload 5, 2) := by decide +kernel
theorem dX0_look_136 : decode cX0_look 136 = .ok (.getfield 106, 3) := by decide +kernel
theorem dX0_look_139 : decode cX0_look 139 = .ok (.aload_n 1, 1) := by decide +kernel
theorem dX0_look_140 : decode cX0_look 140 = .ok (.getfield 106, 3) := by decide +kernel
theorem dX0_look_143 : decode cX0_look 143 = .ok (.sipush 365, 3) := by decide +kernel
theorem dX0_look_146 : decode cX0_look 146 = .ok (.isub, 1) := by decide +kernel
theorem dX0_look_147 : decode cX0_look 147 = .ok (.if_icmp .lt 13, 3) := by decide +kernel
theorem dX0_look_150 : decode cX0_look 150 = .ok (.aload_n 0, 1) := by decide +kernel
theorem dX0_look_151 : decode cX0_look 151 = .ok (.dup, 1) := by decide +kernel
theorem dX0_look_152 : decode cX0_look 152 = .ok (.getfield 33, 3) := by decide +kernel
theorem dX0_look_155 : decode cX0_look 155 = .ok (.iconst 1, 1) := by decide +kernel
theorem dX0_look_156 : decode cX0_look 156 = .ok (.iadd, 1) := by decide +kernel
theorem dX0_look_157 : decode cX0_look 157 = .ok (.putfield 33, 3) := by decide +kernel
theorem dX0_look_160 : decode cX0_look 160 = .ok (.aload 5, 2) := by decide +kernel
theorem dX0_look_162 : decode cX0_look 162 = .ok (.getfield 90, 3) := by decide +kernel
theorem dX0_look_165 : decode cX0_look 165 = .ok (.iconst 4, 1) := by decide +kernel
theorem dX0_look_166 : decode cX0_look 166 = .ok (.if_icmp .eq 43, 3) := by decide +kernel
theorem dX0_look_169 : decode cX0_look 169 = .ok (.aload 5, 2) := by decide +kernel
theorem dX0_look_171 : decode cX0_look 171 = .ok (.getfield 151, 3) := by decide +kernel
theorem dX0_look_174 : decode cX0_look 174 = .ok (.aload_n 1, 1) := by decide +kernel
theorem dX0_look_175 : decode cX0_look 175 = .ok (.getfield 99, 3) := by decide +kernel
theorem dX0_look_178 : decode cX0_look 178 = .ok (.if_icmp .ne 31, 3) := by decide +kernel
theorem dX0_look_181 : decode cX0_look 181 = .ok (.aload 5, 2) := by decide +kernel
theorem dX0_look_183 : decode cX0_look 183 = .ok (.getfield 106, 3) := by decide +kernel
theorem dX0_look_186 : decode cX0_look 186 = .ok (.iload_n 2, 1) := by decide +kernel
theorem dX0_look_187 : decode cX0_look 187 = .ok (.if_icmp .lt 22, 3) := by decide +kernel
theorem dX0_look_190 : decode cX0_look 190 = .ok (.aload 5, 2) := by decide +kernel
theorem dX0_look_192 : decode cX0_look 192 = .ok (.getfield 106, 3) := by decide +kernel
theorem dX0_look_195 : decode cX0_look 195 = .ok (.istore_n 2, 1) := by decide +kernel
theorem dX0_look_196 : decode cX0_look 196 = .ok (.aload_n 0, 1) := by decide +kernel
theorem dX0_look_197 : decode cX0_look 197 = .ok (.getfield 82, 3) := by decide +kernel
theorem dX0_look_200 : decode cX0_look 200 = .ok (.aload 5, 2) := by decide +kernel
theorem dX0_look_202 : decode cX0_look 202 = .ok (.getfield 99, 3) := by decide +kernel
theorem dX0_look_205 : decode cX0_look 205 = .ok (.invokevirtual 154, 3) := by decide +kernel
theorem dX0_look_208 : decode cX0_look 208 = .ok (.istore_n 3, 1) := by decide +kernel
theorem dX0_look_209 : decode cX0_look 209 = .ok (.iinc 4 1, 3) := by decide +kernel
theorem dX0_look_212 : decode cX0_look 212 = .ok (.goto (-149), 3) := by decide +kernel
theorem dX0_look_215 : decode cX0_look 215 = .ok (.aload_n 0, 1) := by decide +kernel
theorem dX0_look_216 : decode cX0_look 216 = .ok (.iload_n 2, 1) := by decide +kernel
theorem dX0_look_217 : decode cX0_look 217 = .ok (.iconst (-1), 1) := by decide +kernel
theorem dX0_look_218 : decode cX0_look 218 = .ok (.if_icmp .ne 8, 3) := by decide +kernel
theorem dX0_look_221 : decode cX0_look 221 = .ok (.ldc 159, 2) := by decide +kernel
theorem dX0_look_223 : decode cX0_look 223 = .ok (.goto 9, 3) := by decide +kernel
theorem dX0_look_226 : decode cX0_look 226 = .ok (.aload_n 1, 1) := by decide +kernel
theorem dX0_look_227 : decode cX0_look 227 = .ok (.getfield 106, 3) := by decide +kernel
theorem dX0_look_230 : decode cX0_look 230 = .ok (.iload_n 2, 1) := by decide +kernel
theorem dX0_look_231 : decode cX0_look 231 = .ok (.isub, 1) := by decide +kernel
theorem dX0_look_232 : decode cX0_look 232 = .ok (.putfield 30, 3) := by decide +kernel
theorem dX0_look_235 : decode cX0_look 235 = .ok (.aload_n 0, 1) := by decide +kernel
theorem dX0_look_236 : decode cX0_look 236 = .ok (.iload_n 3, 1) := by decide +kernel
theorem dX0_look_237 : decode cX0_look 237 = .ok (.invokevirtual 160, 3) := by decide +kernel
theorem dX0_look_240 : decode cX0_look 240 = .ok (.return_, 1) := by decide +kernel
theorem dX0_fillValues_0 : decode cX0_fillValues 0 = .ok (.aload_n 0, 1) := by decide +kernel
theorem dX0_fillValues_1 : decode cX0_fillValues 1 = .ok (.getfield 24, 3) := by decide +kernel
theorem dX0_fillValues_4 : decode cX0_fillValues 4 = .ok (.iconst 0, 1) := by decide +kernel
theorem dX0_fillValues_5 : decode cX0_fillValues 5 = .ok (.aload_n 0, 1) := by decide +kernel
theorem dX0_fillValues_6 : decode cX0_fillValues 6 = .ok (.getfield 27, 3) := by decide +kernel
theorem dX0_fillValues_9 : decode cX0_fillValues 9 = .ok (.iastore, 1) := by decide +kernel
theorem dX0_fillValues_10 : decode cX0_fillValues 10 = .ok (.aload_n 0, 1) := by decide +kernel
theorem dX0_fillValues_11 : decode cX0_fillValues 11 = .ok (.getfield 24, 3) := by decide +kernel
theorem dX0_fillValues_14 : decode cX0_fillValues 14 = .ok (.iconst 1, 1) := by decide +kernel
theorem dX0_fillValues_15 : decode cX0_fillValues 15 = .ok (.aload_n 0, 1) := by decide +kernel
theorem dX0_fillValues_16 : decode cX0_fillValues 16 = .ok (.getfield 64, 3) := by decide +kernel
theorem dX0_fillValues_19 : decode cX0_fillValues 19 = .ok (.aload_n 0, 1) := by decide +kernel
theorem dX0_fillValues_20 : decode cX0_fillValues 20 = .ok (.getfield 74, 3) := by decide +kernel
theorem dX0_fillValues_23 : decode cX0_fillValues 23 = .ok (.getfield 99, 3) := by decide +kernel
theorem dX0_fillValues_26 : decode cX0_fillValues 26 = .ok (.invokevirtual 164, 3) := by decide +kernel
theorem dX0_fillValues_29 : decode cX0_fillValues 29 = .ok (.getfield 168, 3) := by decide +kernel
theorem dX0_fillValues_32 : decode cX0_fillValues 32 = .ok (.iastore, 1) := by decide +kernel
theorem dX0_fillValues_33 : decode cX0_fillValues 33 = .ok (.aload_n 0, 1) := by decide +kernel
theorem dX0_fillValues_34 : decode cX0_fillValues 34 = .ok (.getfield 24, 3) := by decide +kernel
theorem dX0_fillValues_37 : decode cX0_fillValues 37 = .ok (.iconst 2, 1) := by decide +kernel
theorem dX0_fillValues_38 : decode cX0_fillValues 38 = .ok (.aload_n 0, 1) := by decide +kernel
theorem dX0_fillValues_39 : decode cX0_fillValues 39 = .ok (.getfield 64, 3) := by decide +kernel
theorem dX0_fillValues_42 : decode cX0_fillValues 42 = .ok (.aload_n 0, 1) := by decide +kernel
theorem dX0_fillValues_43 : decode cX0_fillValues 43 = .ok (.getfield 74, 3) := by decide +kernel
theorem dX0_fillValues_46 : decode cX0_fillValues 46 = .ok (.getfield 151, 3) := by decide +kernel
theorem dX0_fillValues_49 : decode cX0_fillValues 49 = .ok (.invokevirtual 164, 3) := by decide +kernel
theorem dX0_fillValues_52 : decode cX0_fillValues 52 = .ok (.getfield 168, 3) := by decide +kernel
theorem dX0_fillValues_55 : decode cX0_fillValues 55 = .ok (.iastore, 1) := by decide +kernel
theorem dX0_fillValues_56 : decode cX0_fillValues 56 = .ok (.aload_n 0, 1) := by decide +kernel
theorem dX0_fillValues_57 : decode cX0_fillValues 57 = .ok (.getfield 24, 3) := by decide +kernel
theorem dX0_fillValues_60 : decode cX0_fillValues 60 = .ok (.iconst 3, 1) := by decide +kernel
theorem dX0_fillValues_61 : decode cX0_fillValues 61 = .ok (.aload_n 0, 1) := by decide +kernel
theorem dX0_fillValues_62 : decode cX0_fillValues 62 = .ok (.getfield 74, 3) := by decide +kernel
theorem dX0_fillValues_65 : decode cX0_fillValues 65 = .ok (.getfield 173, 3) := by decide +kernel
theorem dX0_fillValues_68 : decode cX0_fillValues 68 = .ok (.iastore, 1) := by decide +kernel
theorem dX0_fillValues_69 : decode cX0_fillValues 69 = .ok (.aload_n 0, 1) := by decide +kernel
theorem dX0_fillValues_70 : decode cX0_fillValues 70 = .ok (.getfield 24, 3) := by decide +kernel
theorem dX0_fillValues_73 : decode cX0_fillValues 73 = .ok (.iconst 4, 1) := by decide +kernel
theorem dX0_fillValues_74 : decode cX0_fillValues 74 = .ok (.aload_n 0, 1) := by decide +kernel
theorem dX0_fillValues_75 : decode cX0_fillValues 75 = .ok (.getfield 82, 3) := by decide +kernel
theorem dX0_fillValues_78 : decode cX0_fillValues 78 = .ok (.aload_n 0, 1) := by decide +kernel
theorem dX0_fillValues_79 : decode cX0_fillValues 79 = .ok (.getfield 74, 3) := by decide +kernel
theorem dX0_fillValues_82 : decode cX0_fillValues 82 = .ok (.getfield 99, 3) := by decide +kernel
theorem dX0_fillValues_85 : decode cX0_fillValues 85 = .ok (.invokevirtual 154, 3) := by decide +kernel
theorem dX0_fillValues_88 : decode cX0_fillValues 88 = .ok (.ifCond .eq 7, 3) := by decide +kernel
theorem dX0_fillValues_91 : decode cX0_fillValues 91 = .ok (.iconst 1, 1) := by decide +kernel
theorem dX0_fillValues_92 : decode cX0_fillValues 92 = .ok (.goto 4, 3) := by decide +kernel
theorem dX0_fillValues_95 : decode cX0_fillValues 95 = .ok (.iconst 0, 1) := by decide +kernel
theorem dX0_fillValues_96 : decode cX0_fillValues 96 = .ok (.iastore, 1) := by decide +kernel
theorem dX0_fillValues_97 : decode cX0_fillValues 97 = .ok (.aload_n 0, 1) := by decide +kernel
theorem dX0_fillValues_98 : decode cX0_fillValues 98 = .ok (.getfield 24, 3) := by decide +kernel
theorem dX0_fillValues_101 : decode cX0_fillValues 101 = .ok (.iconst 5, 1) := by decide +kernel
theorem dX0_fillValues_102 : decode cX0_fillValues 102 = .ok (.aload_n 0, 1) := by decide +kernel
theorem dX0_fillValues_103 : decode cX0_fillValues 103 = .ok (.getfield 30, 3) := by decide +kernel
theorem dX0_fillValues_106 : decode cX0_fillValues 106 = .ok (.iastore, 1) := by decide +kernel
theorem dX0_fillValues_107 : decode cX0_fillValues 107 = .ok (.aload_n 0, 1) := by decide +kernel
theorem dX0_fillValues_108 : decode cX0_fillValues 108 = .ok (.getfield 24, 3) := by decide +kernel
theorem dX0_fillValues_111 : decode cX0_fillValues 111 = .ok (.bipush 6, 2) := by decide +kernel
theorem dX0_fillValues_113 : decode cX0_fillValues 113 = .ok (.iload_n 1, 1) := by decide +kernel
theorem dX0_fillValues_114 : decode cX0_fillValues 114 = .ok (.ifCond .eq 7, 3) := by decide +kernel
theorem dX0_fillValues_117 : decode cX0_fillValues 117 = .ok (.iconst 1, 1) := by decide +kernel
theorem dX0_fillValues_118 : decode cX0_fillValues 118 = .ok (.goto 4, 3) := by decide +kernel
theorem dX0_fillValues_121 : decode cX0_fillValues 121 = .ok (.iconst 0, 1) := by decide +kernel
theorem dX0_fillValues_122 : decode cX0_fillValues 122 = .ok (.iastore, 1) := by decide +kernel
theorem dX0_fillValues_123 : decode cX0_fillValues 123 = .ok (.aload_n 0, 1) := by decide +kernel
theorem dX0_fillValues_124 : decode cX0_fillValues 124 = .ok (.getfield 24, 3) := by decide +kernel
theorem dX0_fillValues_127 : decode cX0_fillValues 127 = .ok (.bipush 7, 2) := by decide +kernel
theorem dX0_fillValues_129 : decode cX0_fillValues 129 = .ok (.aload_n 0, 1) := by decide +kernel
theorem dX0_fillValues_130 : decode cX0_fillValues 130 = .ok (.getfield 33, 3) := by decide +kernel
theorem dX0_fillValues_133 : decode cX0_fillValues 133 = .ok (.iastore, 1) := by decide +kernel
theorem dX0_fillValues_134 : decode cX0_fillValues 134 = .ok (.aload_n 0, 1) := by decide +kernel
theorem dX0_fillValues_135 : decode cX0_fillValues 135 = .ok (.getfield 24, 3) := by decide +kernel
theorem dX0_fillValues_138 : decode cX0_fillValues 138 = .ok (.bipush 8, 2) := by decide +kernel
theorem dX0_fillValues_140 : decode cX0_fillValues 140 = .ok (.aload_n 0, 1) := by decide +kernel
theorem dX0_fillValues_141 : decode cX0_fillValues 141 = .ok (.getfield 82, 3) := by decide +kernel
theorem dX0_fillValues_144 : decode cX0_fillValues 144 = .ok (.getfield 176, 3) := by decide +kernel
theorem dX0_fillValues_147 : decode cX0_fillValues 147 = .ok (.iastore, 1) := by decide +kernel
theorem dX0_fillValues_148 : decode cX0_fillValues 148 = .ok (.aload_n 0, 1) := by decide +kernel
theorem dX0_fillValues_149 : decode cX0_fillValues 149 = .ok (.getfield 24, 3) := by decide +kernel
theorem dX0_fillValues_152 : decode cX0_fillValues 152 = .ok (.bipush 9, 2) := by decide +kernel
theorem dX0_fillValues_154 : decode cX0_fillValues 154 = .ok (.aload_n 0, 1) := by decide +kernel
theorem dX0_fillValues_155 : decode cX0_fillValues 155 = .ok (.getfield 82, 3) := by decide +kernel
theorem dX0_fillValues_158 : decode cX0_fillValues 158 = .ok (.getfield 179, 3) := by decide +kernel
theorem dX0_fillValues_161 : decode cX0_fillValues 161 = .ok (.iastore, 1) := by decide +kernel
theorem dX0_fillValues_162 : decode cX0_fillValues 162 = .ok (.return_, 1) := by decide +kernel
theorem dX0_apply_0 : decode cX0_apply 0 = .ok (.aload_n 0, 1) := by decide +kernel
theorem dX0_apply_1 : decode cX0_apply 1 = .ok (.aload_n 1, 1) := by decide +kernel
theorem dX0_apply_2 : decode cX0_apply 2 = .ok (.getfield 182, 3) := by decide +kernel
theorem dX0_apply_5 : decode cX0_apply 5 = .ok (.iconst (-1), 1) := by decide +kernel
theorem dX0_apply_6 : decode cX0_apply 6 = .ok (.if_icmp .eq 51, 3) := by decide +kernel
theorem dX0_apply_9 : decode cX0_apply 9 = .ok (.aload_n 0, 1) := by decide +kernel
theorem dX0_apply_10 : decode cX0_apply 10 = .ok (.getfield 27, 3) := by decide +kernel
theorem dX0_apply_13 : decode cX0_apply 13 = .ok (.aload_n 1, 1) := by decide +kernel
theorem dX0_apply_14 : decode cX0_apply 14 = .ok (.getfield 183, 3) := by decide +kernel
theorem dX0_apply_17 : decode cX0_apply 17 = .ok (.if_icmp .lt 40, 3) := by decide +kernel
theorem dX0_apply_20 : decode cX0_apply 20 = .ok (.aload_n 1, 1) := by decide +kernel
theorem dX0_apply_21 : decode cX0_apply 21 = .ok (.aload_n 0, 1) := by decide +kernel
theorem dX0_apply_22 : decode cX0_apply 22 = .ok (.getfield 24, 3) := by decide +kernel
theorem dX0_apply_25 : decode cX0_apply 25 = .ok (.aload_n 0, 1) := by decide +kernel
theorem dX0_apply_26 : decode cX0_apply 26 = .ok (.getfield 82, 3) := by decide +kernel
theorem dX0_apply_29 : decode cX0_apply 29 = .ok (.aload_n 0, 1) := by decide +kernel
theorem dX0_apply_30 : decode cX0_apply 30 = .ok (.getfield 74, 3) := by decide +kernel
theorem dX0_apply_33 : decode cX0_apply 33 = .ok (.getfield 99, 3) := by decide +kernel
theorem dX0_apply_36 : decode cX0_apply 36 = .ok (.invokevirtual 154, 3) := by decide +kernel
theorem dX0_apply_39 : decode cX0_apply 39 = .ok (.ifCond .ne 7, 3) := by decide +kernel
theorem dX0_apply_42 : decode cX0_apply 42 = .ok (.iconst 1, 1) := by decide +kernel
theorem dX0_apply_43 : decode cX0_apply 43 = .ok (.goto 4, 3) := by decide +kernel
theorem dX0_apply_46 : decode cX0_apply 46 = .ok (.iconst 0, 1) := by decide +kernel
theorem dX0_apply_47 : decode cX0_apply 47 = .ok (.invokevirtual 186, 3) := by decide +kernel
theorem dX0_apply_50 : decode cX0_apply 50 = .ok (.ifCond .eq 7, 3) := by decide +kernel
theorem dX0_apply_53 : decode cX0_apply 53 = .ok (.iconst 1, 1) := by decide +kernel
theorem dX0_apply_54 : decode cX0_apply 54 = .ok (.goto 4, 3) := by decide +kernel
theorem dX0_apply_57 : decode cX0_apply 57 = .ok (.iconst 0, 1) := by decide +kernel
theorem dX0_apply_58 : decode cX0_apply 58 = .ok (.putfield 36, 3) := by decide +kernel
theorem dX0_apply_61 : decode cX0_apply 61 = .ok (.aload_n 0, 1) := by decide +kernel
theorem dX0_apply_62 : decode cX0_apply 62 = .ok (.aload_n 0, 1) := by decide +kernel
theorem dX0_apply_63 : decode cX0_apply 63 = .ok (.getfield 36, 3) := by decide +kernel
theorem dX0_apply_66 : decode cX0_apply 66 = .ok (.ifCond .eq 14, 3) := by decide +kernel
theorem dX0_apply_69 : decode cX0_apply 69 = .ok (.aload_n 1, 1) := by decide +kernel
theorem dX0_apply_70 : decode cX0_apply 70 = .ok (.aload_n 0, 1) := by decide +kernel
theorem dX0_apply_71 : decode cX0_apply 71 = .ok (.getfield 27, 3) := by decide +kernel
theorem dX0_apply_74 : decode cX0_apply 74 = .ok (.invokevirtual 190, 3) := by decide +kernel
theorem dX0_apply_77 : decode cX0_apply 77 = .ok (.goto 4, 3) := by decide +kernel
theorem dX0_apply_80 : decode cX0_apply 80 = .ok (.iconst 0, 1) := by decide +kernel
theorem dX0_apply_81 : decode cX0_apply 81 = .ok (.putfield 40, 3) := by decide +kernel
theorem dX0_apply_84 : decode cX0_apply 84 = .ok (.iconst 0, 1) := by decide +kernel
theorem dX0_apply_85 : decode cX0_apply 85 = .ok (.istore_n 2, 1) := by decide +kernel
theorem dX0_apply_86 : decode cX0_apply 86 = .ok (.iload_n 2, 1) := by decide +kernel
theorem dX0_apply_87 : decode cX0_apply 87 = .ok (.bipush 30, 2) := by decide +kernel
theorem dX0_apply_89 : decode cX0_apply 89 = .ok (.if_icmp .ge 95, 3) := by decide +kernel
theorem dX0_apply_92 : decode cX0_apply 92 = .ok (.aload_n 0, 1) := by decide +kernel
theorem dX0_apply_93 : decode cX0_apply 93 = .ok (.getfield 82, 3) := by decide +kernel
theorem dX0_apply_96 : decode cX0_apply 96 = .ok (.iload_n 2, 1) := by decide +kernel
theorem dX0_apply_97 : decode cX0_apply 97 = .ok (.invokevirtual 194, 3) := by decide +kernel
theorem dX0_apply_100 : decode cX0_apply 100 = .ok (.istore_n 3, 1) := by decide +kernel
theorem dX0_apply_101 : decode cX0_apply 101 = .ok (.aload_n 0, 1) := by decide +kernel
theorem dX0_apply_102 : decode cX0_apply 102 = .ok (.getfield 49, 3) := by decide +kernel
theorem dX0_apply_105 : decode cX0_apply 105 = .ok (.iload_n 2, 1) := by decide +kernel
theorem dX0_apply_106 : decode cX0_apply 106 = .ok (.aload_n 0, 1) := by decide +kernel
theorem dX0_apply_107 : decode cX0_apply 107 = .ok (.getfield 36, 3) := by decide +kernel
theorem dX0_apply_110 : decode cX0_apply 110 = .ok (.ifCond .eq 16, 3) := by decide +kernel
theorem dX0_apply_113 : decode cX0_apply 113 = .ok (.iload_n 3, 1) := by decide +kernel
theorem dX0_apply_114 : decode cX0_apply 114 = .ok (.ifCond .le 12, 3) := by decide +kernel
theorem dX0_apply_117 : decode cX0_apply 117 = .ok (.aload_n 0, 1) := by decide +kernel
theorem dX0_apply_118 : decode cX0_apply 118 = .ok (.iload_n 2, 1) := by decide +kernel
theorem dX0_apply_119 : decode cX0_apply 119 = .ok (.aload_n 1, 1) := by decide +kernel
theorem dX0_apply_120 : decode cX0_apply 120 = .ok (.invokevirtual 197, 3) := by decide +kernel
theorem dX0_apply_123 : decode cX0_apply 123 = .ok (.goto 4, 3) := by decide +kernel
theorem dX0_apply_126 : decode cX0_apply 126 = .ok (.iconst 0, 1) := by decide +kernel
theorem dX0_apply_127 : decode cX0_apply 127 = .ok (.iastore, 1) := by decide +kernel
theorem dX0_apply_128 : decode cX0_apply 128 = .ok (.aload_n 0, 1) := by decide +kernel
theorem dX0_apply_129 : decode cX0_apply 129 = .ok (.getfield 46, 3) := by decide +kernel
theorem dX0_apply_132 : decode cX0_apply 132 = .ok (.iload_n 2, 1) := by decide +kernel
theorem dX0_apply_133 : decode cX0_apply 133 = .ok (.iconst 0, 1) := by decide +kernel
theorem dX0_apply_134 : decode cX0_apply 134 = .ok (.iastore, 1) := by decide +kernel
theorem dX0_apply_135 : decode cX0_apply 135 = .ok (.aload_n 0, 1) := by decide +kernel
theorem dX0_apply_136 : decode cX0_apply 136 = .ok (.getfield 49, 3) := by decide +kernel
theorem dX0_apply_139 : decode cX0_apply 139 = .ok (.iload_n 2, 1) := by decide +kernel
theorem dX0_apply_140 : decode cX0_apply 140 = .ok (.iaload, 1) := by decide +kernel
theorem dX0_apply_141 : decode cX0_apply 141 = .ok (.ifCond .eq 37, 3) := by decide +kernel
theorem dX0_apply_144 : decode cX0_apply 144 = .ok (.aload_n 0, 1) := by decide +kernel
theorem dX0_apply_145 : decode cX0_apply 145 = .ok (.getfield 82, 3) := by decide +kernel
theorem dX0_apply_148 : decode cX0_apply 148 = .ok (.getfield 201, 3) := by decide +kernel
theorem dX0_apply_151 : decode cX0_apply 151 = .ok (.ifCond .le 27, 3) := by decide +kernel
theorem dX0_apply_154 : decode cX0_apply 154 = .ok (.aload_n 0, 1) := by decide +kernel
theorem dX0_apply_155 : decode cX0_apply 155 = .ok (.getfield 46, 3) := by decide +kernel
theorem dX0_apply_158 : decode cX0_apply 158 = .ok (.iload_n 2, 1) := by decide +kernel
theorem dX0_apply_159 : decode cX0_apply 159 = .ok (.aload_n 0, 1) := by decide +kernel
theorem dX0_apply_160 : decode cX0_apply 160 = .ok (.getfield 40, 3) := by decide +kernel
theorem dX0_apply_163 : decode cX0_apply 163 = .ok (.i2l, 1) := by decide +kernel
theorem dX0_apply_164 : decode cX0_apply 164 = .ok (.iload_n 3, 1) := by decide +kernel
theorem dX0_apply_165 : decode cX0_apply 165 = .ok (.i2l, 1) := by decide +kernel
theorem dX0_apply_166 : decode cX0_apply 166 = .ok (.lmul, 1) := by decide +kernel
theorem dX0_apply_167 : decode cX0_apply 167 = .ok (.aload_n 0, 1) := by decide +kernel
theorem dX0_apply_168 : decode cX0_apply 168 = .ok (.getfield 82, 3) := by decide +kernel
theorem dX0_apply_171 : decode cX0_apply 171 = .ok (.getfield 201, 3) := by decide +kernel
theorem dX0_apply_174 : decode cX0_apply 174 = .ok (.i2l, 1) := by decide +kernel
theorem dX0_apply_175 : decode cX0_apply 175 = .ok (.ldiv, 1) := by decide +kernel
theorem dX0_apply_176 : decode cX0_apply 176 = .ok (.l2i, 1) := by decide +kernel
theorem dX0_apply_177 : decode cX0_apply 177 = .ok (.iastore, 1) := by decide +kernel
theorem dX0_apply_178 : decode cX0_apply 178 = .ok (.iinc 2 1, 3) := by decide +kernel
theorem dX0_apply_181 : decode cX0_apply 181 = .ok (.goto (-95), 3) := by decide +kernel
theorem dX0_apply_184 : decode cX0_apply 184 = .ok (.return_, 1) := by decide +kernel
theorem dX0_statusOf_0 : decode cX0_statusOf 0 = .ok (.sipush 365, 3) := by decide +kernel
theorem dX0_statusOf_3 : decode cX0_statusOf 3 = .ok (.aload_n 2, 1) := by decide +kernel
theorem dX0_statusOf_4 : decode cX0_statusOf 4 = .ok (.getfield 204, 3) := by decide +kernel
theorem dX0_statusOf_7 : decode cX0_statusOf 7 = .ok (.imul, 1) := by decide +kernel
theorem dX0_statusOf_8 : decode cX0_statusOf 8 = .ok (.istore_n 3, 1) := by decide +kernel
theorem dX0_statusOf_9 : decode cX0_statusOf 9 = .ok (.aload_n 2, 1) := by decide +kernel
theorem dX0_statusOf_10 : decode cX0_statusOf 10 = .ok (.aload_n 0, 1) := by decide +kernel
theorem dX0_statusOf_11 : decode cX0_statusOf 11 = .ok (.getfield 64, 3) := by decide +kernel
theorem dX0_statusOf_14 : decode cX0_statusOf 14 = .ok (.iload_n 1, 1) := by decide +kernel
theorem dX0_statusOf_15 : decode cX0_statusOf 15 = .ok (.invokevirtual 164, 3) := by decide +kernel
theorem dX0_statusOf_18 : decode cX0_statusOf 18 = .ok (.getfield 207, 3) := by decide +kernel
theorem dX0_statusOf_21 : decode cX0_statusOf 21 = .ok (.invokevirtual 208, 3) := by decide +kernel
theorem dX0_statusOf_24 : decode cX0_statusOf 24 = .ok (.ifCond .eq 21, 3) := by decide +kernel
theorem dX0_statusOf_27 : decode cX0_statusOf 27 = .ok (.aload_n 0, 1) := by decide +kernel
theorem dX0_statusOf_28 : decode cX0_statusOf 28 = .ok (.getfield 74, 3) := by decide +kernel
theorem dX0_statusOf_31 : decode cX0_statusOf 31 = .ok (.getfield 106, 3) := by decide +kernel
theorem dX0_statusOf_34 : decode cX0_statusOf 34 = .ok (.aload_n 0, 1) := by decide +kernel
theorem dX0_statusOf_35 : decode cX0_statusOf 35 = .ok (.getfield 19, 3) := by decide +kernel
theorem dX0_statusOf_38 : decode cX0_statusOf 38 = .ok (.iload_n 1, 1) := by decide +kernel
theorem dX0_statusOf_39 : decode cX0_statusOf 39 = .ok (.iaload, 1) := by decide +kernel
theorem dX0_statusOf_40 : decode cX0_statusOf 40 = .ok (.iload_n 3, 1) := by decide +kernel
theorem dX0_statusOf_41 : decode cX0_statusOf 41 = .ok (.iadd, 1) := by decide +kernel
theorem dX0_statusOf_42 : decode cX0_statusOf 42 = .ok (.if_icmp .lt 5, 3) := by decide +kernel
theorem dX0_statusOf_45 : decode cX0_statusOf 45 = .ok (.iconst 0, 1) := by decide +kernel
theorem dX0_statusOf_46 : decode cX0_statusOf 46 = .ok (.ireturn, 1) := by decide +kernel
theorem dX0_statusOf_47 : decode cX0_statusOf 47 = .ok (.aload_n 0, 1) := by decide +kernel
theorem dX0_statusOf_48 : decode cX0_statusOf 48 = .ok (.getfield 74, 3) := by decide +kernel
theorem dX0_statusOf_51 : decode cX0_statusOf 51 = .ok (.getfield 106, 3) := by decide +kernel
theorem dX0_statusOf_54 : decode cX0_statusOf 54 = .ok (.aload_n 0, 1) := by decide +kernel
theorem dX0_statusOf_55 : decode cX0_statusOf 55 = .ok (.getfield 15, 3) := by decide +kernel
theorem dX0_statusOf_58 : decode cX0_statusOf 58 = .ok (.iload_n 1, 1) := by decide +kernel
theorem dX0_statusOf_59 : decode cX0_statusOf 59 = .ok (.iaload, 1) := by decide +kernel
theorem dX0_statusOf_60 : decode cX0_statusOf 60 = .ok (.iload_n 3, 1) := by decide +kernel
theorem dX0_statusOf_61 : decode cX0_statusOf 61 = .ok (.iadd, 1) := by decide +kernel
theorem dX0_statusOf_62 : decode cX0_statusOf 62 = .ok (.if_icmp .lt 7, 3) := by decide +kernel
theorem dX0_statusOf_65 : decode cX0_statusOf 65 = .ok (.iconst 2, 1) := by decide +kernel
theorem dX0_statusOf_66 : decode cX0_statusOf 66 = .ok (.goto 4, 3) := by decide +kernel
theorem dX0_statusOf_69 : decode cX0_statusOf 69 = .ok (.iconst 1, 1) := by decide +kernel
theorem dX0_statusOf_70 : decode cX0_statusOf 70 = .ok (.ireturn, 1) := by decide +kernel
theorem dX0_passOn_0 : decode cX0_passOn 0 = .ok (.aload_n 0, 1) := by decide +kernel
theorem dX0_passOn_1 : decode cX0_passOn 1 = .ok (.iconst 0, 1) := by decide +kernel
theorem dX0_passOn_2 : decode cX0_passOn 2 = .ok (.putfield 43, 3) := by decide +kernel
theorem dX0_passOn_5 : decode cX0_passOn 5 = .ok (.iconst 0, 1) := by decide +kernel
theorem dX0_passOn_6 : decode cX0_passOn 6 = .ok (.istore_n 1, 1) := by decide +kernel
theorem dX0_passOn_7 : decode cX0_passOn 7 = .ok (.iconst 0, 1) := by decide +kernel
theorem dX0_passOn_8 : decode cX0_passOn 8 = .ok (.istore_n 2, 1) := by decide +kernel
theorem dX0_passOn_9 : decode cX0_passOn 9 = .ok (.iload_n 2, 1) := by decide +kernel
theorem dX0_passOn_10 : decode cX0_passOn 10 = .ok (.bipush 30, 2) := by decide +kernel
theorem dX0_passOn_12 : decode cX0_passOn 12 = .ok (.if_icmp .ge 46, 3) := by decide +kernel
theorem dX0_passOn_15 : decode cX0_passOn 15 = .ok (.aload_n 0, 1) := by decide +kernel
theorem dX0_passOn_16 : decode cX0_passOn 16 = .ok (.getfield 52, 3) := by decide +kernel
theorem dX0_passOn_19 : decode cX0_passOn 19 = .ok (.iload_n 2, 1) := by decide +kernel
theorem dX0_passOn_20 : decode cX0_passOn 20 = .ok (.aload_n 0, 1) := by decide +kernel
theorem dX0_passOn_21 : decode cX0_passOn 21 = .ok (.getfield 46, 3) := by decide +kernel
theorem dX0_passOn_24 : decode cX0_passOn 24 = .ok (.iload_n 2, 1) := by decide +kernel
theorem dX0_passOn_25 : decode cX0_passOn 25 = .ok (.iaload, 1) := by decide +kernel
theorem dX0_passOn_26 : decode cX0_passOn 26 = .ok (.iastore, 1) := by decide +kernel
theorem dX0_passOn_27 : decode cX0_passOn 27 = .ok (.iload_n 1, 1) := by decide +kernel
theorem dX0_passOn_28 : decode cX0_passOn 28 = .ok (.aload_n 0, 1) := by decide +kernel
theorem dX0_passOn_29 : decode cX0_passOn 29 = .ok (.getfield 52, 3) := by decide +kernel
theorem dX0_passOn_32 : decode cX0_passOn 32 = .ok (.iload_n 2, 1) := by decide +kernel
theorem dX0_passOn_33 : decode cX0_passOn 33 = .ok (.iaload, 1) := by decide +kernel
theorem dX0_passOn_34 : decode cX0_passOn 34 = .ok (.ifCond .le 15, 3) := by decide +kernel
theorem dX0_passOn_37 : decode cX0_passOn 37 = .ok (.aload_n 0, 1) := by decide +kernel
theorem dX0_passOn_38 : decode cX0_passOn 38 = .ok (.iload_n 2, 1) := by decide +kernel
theorem dX0_passOn_39 : decode cX0_passOn 39 = .ok (.invokevirtual 211, 3) := by decide +kernel
theorem dX0_passOn_42 : decode cX0_passOn 42 = .ok (.ifCond .eq 7, 3) := by decide +kernel
theorem dX0_passOn_45 : decode cX0_passOn 45 = .ok (.iconst 1, 1) := by decide +kernel
theorem dX0_passOn_46 : decode cX0_passOn 46 = .ok (.goto 4, 3) := by decide +kernel
theorem dX0_passOn_49 : decode cX0_passOn 49 = .ok (.iconst 0, 1) := by decide +kernel
theorem dX0_passOn_50 : decode cX0_passOn 50 = .ok (.ior, 1) := by decide +kernel
theorem dX0_passOn_51 : decode cX0_passOn 51 = .ok (.istore_n 1, 1) := by decide +kernel
theorem dX0_passOn_52 : decode cX0_passOn 52 = .ok (.iinc 2 1, 3) := by decide +kernel
theorem dX0_passOn_55 : decode cX0_passOn 55 = .ok (.goto (-46), 3) := by decide +kernel
theorem dX0_passOn_58 : decode cX0_passOn 58 = .ok (.iconst 0, 1) := by decide +kernel
theorem dX0_passOn_59 : decode cX0_passOn 59 = .ok (.istore_n 2, 1) := by decide +kernel
theorem dX0_passOn_60 : decode cX0_passOn 60 = .ok (.iload_n 2, 1) := by decide +kernel
theorem dX0_passOn_61 : decode cX0_passOn 61 = .ok (.bipush 8, 2) := by decide +kernel
theorem dX0_passOn_63 : decode cX0_passOn 63 = .ok (.if_icmp .ge 18, 3) := by decide +kernel
theorem dX0_passOn_66 : decode cX0_passOn 66 = .ok (.iload_n 1, 1) := by decide +kernel
theorem dX0_passOn_67 : decode cX0_passOn 67 = .ok (.ifCond .eq 14, 3) := by decide +kernel
theorem dX0_passOn_70 : decode cX0_passOn 70 = .ok (.aload_n 0, 1) := by decide +kernel
theorem dX0_passOn_71 : decode cX0_passOn 71 = .ok (.invokevirtual 214, 3) := by decide +kernel
theorem dX0_passOn_74 : decode cX0_passOn 74 = .ok (.istore_n 1, 1) := by decide +kernel
theorem dX0_passOn_75 : decode cX0_passOn 75 = .ok (.iinc 2 1, 3) := by decide +kernel
theorem dX0_passOn_78 : decode cX0_passOn 78 = .ok (.goto (-18), 3) := by decide +kernel
theorem dX0_passOn_81 : decode cX0_passOn 81 = .ok (.iconst 0, 1) := by decide +kernel
theorem dX0_passOn_82 : decode cX0_passOn 82 = .ok (.istore_n 2, 1) := by decide +kernel
theorem dX0_passOn_83 : decode cX0_passOn 83 = .ok (.iload_n 2, 1) := by decide +kernel
theorem dX0_passOn_84 : decode cX0_passOn 84 = .ok (.bipush 30, 2) := by decide +kernel
theorem dX0_passOn_86 : decode cX0_passOn 86 = .ok (.if_icmp .ge 39, 3) := by decide +kernel
theorem dX0_passOn_89 : decode cX0_passOn 89 = .ok (.aload_n 0, 1) := by decide +kernel
theorem dX0_passOn_90 : decode cX0_passOn 90 = .ok (.iload_n 2, 1) := by decide +kernel
theorem dX0_passOn_91 : decode cX0_passOn 91 = .ok (.invokevirtual 211, 3) := by decide +kernel
theorem dX0_passOn_94 : decode cX0_passOn 94 = .ok (.ifCond .eq 25, 3) := by decide +kernel
theorem dX0_passOn_97 : decode cX0_passOn 97 = .ok (.aload_n 0, 1) := by decide +kernel
theorem dX0_passOn_98 : decode cX0_passOn 98 = .ok (.dup, 1) := by decide +kernel
theorem dX0_passOn_99 : decode cX0_passOn 99 = .ok (.getfield 43, 3) := by decide +kernel
theorem dX0_passOn_102 : decode cX0_passOn 102 = .ok (.aload_n 0, 1) := by decide +kernel
theorem dX0_passOn_103 : decode cX0_passOn 103 = .ok (.getfield 52, 3) := by decide +kernel
theorem dX0_passOn_106 : decode cX0_passOn 106 = .ok (.iload_n 2, 1) := by decide +kernel
theorem dX0_passOn_107 : decode cX0_passOn 107 = .ok (.iaload, 1) := by decide +kernel
theorem dX0_passOn_108 : decode cX0_passOn 108 = .ok (.iadd, 1) := by decide +kernel
theorem dX0_passOn_109 : decode cX0_passOn 109 = .ok (.putfield 43, 3) := by decide +kernel
theorem dX0_passOn_112 : decode cX0_passOn 112 = .ok (.aload_n 0, 1) := by decide +kernel
theorem dX0_passOn_113 : decode cX0_passOn 113 = .ok (.getfield 52, 3) := by decide +kernel
theorem dX0_passOn_116 : decode cX0_passOn 116 = .ok (.iload_n 2, 1) := by decide +kernel
theorem dX0_passOn_117 : decode cX0_passOn 117 = .ok (.iconst 0, 1) := by decide +kernel
theorem dX0_passOn_118 : decode cX0_passOn 118 = .ok (.iastore, 1) := by decide +kernel
theorem dX0_passOn_119 : decode cX0_passOn 119 = .ok (.iinc 2 1, 3) := by decide +kernel
theorem dX0_passOn_122 : decode cX0_passOn 122 = .ok (.goto (-39), 3) := by decide +kernel
theorem dX0_passOn_125 : decode cX0_passOn 125 = .ok (.return_, 1) := by decide +kernel
theorem dX0_goOneRound_0 : decode cX0_goOneRound 0 = .ok (.iconst 0, 1) := by decide +kernel
theorem dX0_goOneRound_1 : decode cX0_goOneRound 1 = .ok (.istore_n 1, 1) := by decide +kernel
theorem dX0_goOneRound_2 : decode cX0_goOneRound 2 = .ok (.iload_n 1, 1) := by decide +kernel
theorem dX0_goOneRound_3 : decode cX0_goOneRound 3 = .ok (.bipush 30, 2) := by decide +kernel
theorem dX0_goOneRound_5 : decode cX0_goOneRound 5 = .ok (.if_icmp .ge 16, 3) := by decide +kernel
theorem dX0_goOneRound_8 : decode cX0_goOneRound 8 = .ok (.aload_n 0, 1) := by decide +kernel
theorem dX0_goOneRound_9 : decode cX0_goOneRound 9 = .ok (.getfield 55, 3) := by decide +kernel
theorem dX0_goOneRound_12 : decode cX0_goOneRound 12 = .ok (.iload_n 1, 1) := by decide +kernel
theorem dX0_goOneRound_13 : decode cX0_goOneRound 13 = .ok (.iconst 0, 1) := by decide +kernel
theorem dX0_goOneRound_14 : decode cX0_goOneRound 14 = .ok (.iastore, 1) := by decide +kernel
theorem dX0_goOneRound_15 : decode cX0_goOneRound 15 = .ok (.iinc 1 1, 3) := by decide +kernel
theorem dX0_goOneRound_18 : decode cX0_goOneRound 18 = .ok (.goto (-16), 3) := by decide +kernel
theorem dX0_goOneRound_21 : decode cX0_goOneRound 21 = .ok (.iconst 0, 1) := by decide +kernel
theorem dX0_goOneRound_22 : decode cX0_goOneRound 22 = .ok (.istore_n 1, 1) := by decide +kernel
theorem dX0_goOneRound_23 : decode cX0_goOneRound 23 = .ok (.iconst 0, 1) := by decide +kernel
theorem dX0_goOneRound_24 : decode cX0_goOneRound 24 = .ok (.istore_n 2, 1) := by decide +kernel
theorem dX0_goOneRound_25 : decode cX0_goOneRound 25 = .ok (.iload_n 2, 1) := by decide +kernel
theorem dX0_goOneRound_26 : decode cX0_goOneRound 26 = .ok (.aload_n 0, 1) := by decide +kernel
theorem dX0_goOneRound_27 : decode cX0_goOneRound 27 = .ok (.getfield 64, 3) := by decide +kernel
theorem dX0_goOneRound_30 : decode cX0_goOneRound 30 = .ok (.getfield 87, 3) := by decide +kernel
theorem dX0_goOneRound_33 : decode cX0_goOneRound 33 = .ok (.if_icmp .ge 124, 3) := by decide +kernel
theorem dX0_goOneRound_36 : decode cX0_goOneRound 36 = .ok (.aload_n 0, 1) := by decide +kernel
theorem dX0_goOneRound_37 : decode cX0_goOneRound 37 = .ok (.getfield 64, 3) := by decide +kernel
theorem dX0_goOneRound_40 : decode cX0_goOneRound 40 = .ok (.iload_n 2, 1) := by decide +kernel
theorem dX0_goOneRound_41 : decode cX0_goOneRound 41 = .ok (.invokevirtual 68, 3) := by decide +kernel
theorem dX0_goOneRound_44 : decode cX0_goOneRound 44 = .ok (.astore_n 3, 1) := by decide +kernel
theorem dX0_goOneRound_45 : decode cX0_goOneRound 45 = .ok (.aload_n 3, 1) := by decide +kernel
theorem dX0_goOneRound_46 : decode cX0_goOneRound 46 = .ok (.getfield 90, 3) := by decide +kernel
theorem dX0_goOneRound_49 : decode cX0_goOneRound 49 = .ok (.iconst 1, 1) := by decide +kernel
theorem dX0_goOneRound_50 : decode cX0_goOneRound 50 = .ok (.if_icmp .ne 36, 3) := by decide +kernel
theorem dX0_goOneRound_53 : decode cX0_goOneRound 53 = .ok (.aload_n 3, 1) := by decide +kernel
theorem dX0_goOneRound_54 : decode cX0_goOneRound 54 = .ok (.aload_n 0, 1) := by decide +kernel
theorem dX0_goOneRound_55 : decode cX0_goOneRound 55 = .ok (.getfield 9, 3) := by decide +kernel
theorem dX0_goOneRound_58 : decode cX0_goOneRound 58 = .ok (.invokevirtual 95, 3) := by decide +kernel
theorem dX0_goOneRound_61 : decode cX0_goOneRound 61 = .ok (.ifCond .eq 25, 3) := by decide +kernel
theorem dX0_goOneRound_64 : decode cX0_goOneRound 64 = .ok (.aload_n 0, 1) := by decide +kernel
theorem dX0_goOneRound_65 : decode cX0_goOneRound 65 = .ok (.aload_n 3, 1) := by decide +kernel
theorem dX0_goOneRound_66 : decode cX0_goOneRound 66 = .ok (.getfield 99, 3) := by decide +kernel
theorem dX0_goOneRound_69 : decode cX0_goOneRound 69 = .ok (.invokevirtual 211, 3) := by decide +kernel
theorem dX0_goOneRound_72 : decode cX0_goOneRound 72 = .ok (.ifCond .eq 14, 3) := by decide +kernel
theorem dX0_goOneRound_75 : decode cX0_goOneRound 75 = .ok (.aload_n 3, 1) := by decide +kernel
theorem dX0_goOneRound_76 : decode cX0_goOneRound 76 = .ok (.getfield 218, 3) := by decide +kernel
theorem dX0_goOneRound_79 : decode cX0_goOneRound 79 = .ok (.ifCond .le 7, 3) := by decide +kernel
theorem dX0_goOneRound_82 : decode cX0_goOneRound 82 = .ok (.iconst 1, 1) := by decide +kernel
theorem dX0_goOneRound_83 : decode cX0_goOneRound 83 = .ok (.goto 4, 3) := by decide +kernel
theorem dX0_goOneRound_86 : decode cX0_goOneRound 86 = .ok (.iconst 0, 1) := by decide +kernel
theorem dX0_goOneRound_87 : decode cX0_goOneRound 87 = .ok (.istore 4, 2) := by decide +kernel
theorem dX0_goOneRound_89 : decode cX0_goOneRound 89 = .ok (.iload 4, 2) := by decide +kernel
theorem dX0_goOneRound_91 : decode cX0_goOneRound 91 = .ok (.ifCond .eq 60, 3) := by decide +kernel
theorem dX0_goOneRound_94 : decode cX0_goOneRound 94 = .ok (.aload_n 3, 1) := by decide +kernel
theorem dX0_goOneRound_95 : decode cX0_goOneRound 95 = .ok (.getfield 151, 3) := by decide +kernel
theorem dX0_goOneRound_98 : decode cX0_goOneRound 98 = .ok (.iconst 0, 1) := by decide +kernel
theorem dX0_goOneRound_99 : decode cX0_goOneRound 99 = .ok (.bipush 29, 2) := by decide +kernel
theorem dX0_goOneRound_101 : decode cX0_goOneRound 101 = .ok (.invokestatic 102, 3) := by decide +kernel
theorem dX0_goOneRound_104 : decode cX0_goOneRound 104 = .ok (.ifCond .eq 47, 3) := by decide +kernel
theorem dX0_goOneRound_107 : decode cX0_goOneRound 107 = .ok (.aload_n 0, 1) := by decide +kernel
theorem dX0_goOneRound_108 : decode cX0_goOneRound 108 = .ok (.getfield 52, 3) := by decide +kernel
theorem dX0_goOneRound_111 : decode cX0_goOneRound 111 = .ok (.aload_n 3, 1) := by decide +kernel
theorem dX0_goOneRound_112 : decode cX0_goOneRound 112 = .ok (.getfield 99, 3) := by decide +kernel
theorem dX0_goOneRound_115 : decode cX0_goOneRound 115 = .ok (.iaload, 1) := by decide +kernel
theorem dX0_goOneRound_116 : decode cX0_goOneRound 116 = .ok (.i2l, 1) := by decide +kernel
theorem dX0_goOneRound_117 : decode cX0_goOneRound 117 = .ok (.aload_n 3, 1) := by decide +kernel
theorem dX0_goOneRound_118 : decode cX0_goOneRound 118 = .ok (.getfield 221, 3) := by decide +kernel
theorem dX0_goOneRound_121 : decode cX0_goOneRound 121 = .ok (.i2l, 1) := by decide +kernel
theorem dX0_goOneRound_122 : decode cX0_goOneRound 122 = .ok (.lmul, 1) := by decide +kernel
theorem dX0_goOneRound_123 : decode cX0_goOneRound 123 = .ok (.aload_n 3, 1) := by decide +kernel
theorem dX0_goOneRound_124 : decode cX0_goOneRound 124 = .ok (.getfield 218, 3) := by decide +kernel
theorem dX0_goOneRound_127 : decode cX0_goOneRound 127 = .ok (.i2l, 1) := by decide +kernel
theorem dX0_goOneRound_128 : decode cX0_goOneRound 128 = .ok (.ldiv, 1) := by decide +kernel
theorem dX0_goOneRound_129 : decode cX0_goOneRound 129 = .ok (.l2i, 1) := by decide +kernel
theorem dX0_goOneRound_130 : decode cX0_goOneRound 130 = .ok (.istore 5, 2) := by decide +kernel
theorem dX0_goOneRound_132 : decode cX0_goOneRound 132 = .ok (.aload_n 0, 1) := by decide +kernel
theorem dX0_goOneRound_133 : decode cX0_goOneRound 133 = .ok (.getfield 55, 3) := by decide +kernel
theorem dX0_goOneRound_136 : decode cX0_goOneRound 136 = .ok (.aload_n 3, 1) := by decide +kernel
theorem dX0_goOneRound_137 : decode cX0_goOneRound 137 = .ok (.getfield 151, 3) := by decide +kernel
theorem dX0_goOneRound_140 : decode cX0_goOneRound 140 = .ok (.dup2, 1) := by decide +kernel
theorem dX0_goOneRound_141 : decode cX0_goOneRound 141 = .ok (.iaload, 1) := by decide +kernel
theorem dX0_goOneRound_142 : decode cX0_goOneRound 142 = .ok (.iload 5, 2) := by decide +kernel
theorem dX0_goOneRound_144 : decode cX0_goOneRound 144 = .ok (.iadd, 1) := by decide +kernel
theorem dX0_goOneRound_145 : decode cX0_goOneRound 145 = .ok (.iastore, 1) := by decide +kernel
theorem dX0_goOneRound_146 : decode cX0_goOneRound 146 = .ok (.iload_n 1, 1) := by decide +kernel
theorem dX0_goOneRound_147 : decode cX0_goOneRound 147 = .ok (.iload 5, 2) := by decide +kernel
theorem dX0_goOneRound_149 : decode cX0_goOneRound 149 = .ok (.iadd, 1) := by decide +kernel
theorem dX0_goOneRound_150 : decode cX0_goOneRound 150 = .ok (.istore_n 1, 1) := by decide +kernel
theorem dX0_goOneRound_151 : decode cX0_goOneRound 151 = .ok (.iinc 2 1, 3) := by decide +kernel
theorem dX0_goOneRound_154 : decode cX0_goOneRound 154 = .ok (.goto (-129), 3) := by decide +kernel
theorem dX0_goOneRound_157 : decode cX0_goOneRound 157 = .ok (.iconst 0, 1) := by decide +kernel
theorem dX0_goOneRound_158 : decode cX0_goOneRound 158 = .ok (.istore_n 2, 1) := by decide +kernel
theorem dX0_goOneRound_159 : decode cX0_goOneRound 159 = .ok (.iconst 0, 1) := by decide +kernel
theorem dX0_goOneRound_160 : decode cX0_goOneRound 160 = .ok (.istore_n 3, 1) := by decide +kernel
theorem dX0_goOneRound_161 : decode cX0_goOneRound 161 = .ok (.iload_n 3, 1) := by decide +kernel
theorem dX0_goOneRound_162 : decode cX0_goOneRound 162 = .ok (.bipush 30, 2) := by decide +kernel
theorem dX0_goOneRound_164 : decode cX0_goOneRound 164 = .ok (.if_icmp .ge 71, 3) := by decide +kernel
theorem dX0_goOneRound_167 : decode cX0_goOneRound 167 = .ok (.aload_n 0, 1) := by decide +kernel
theorem dX0_goOneRound_168 : decode cX0_goOneRound 168 = .ok (.iload_n 3, 1) := by decide +kernel
theorem dX0_goOneRound_169 : decode cX0_goOneRound 169 = .ok (.invokevirtual 211, 3) := by decide +kernel
theorem dX0_goOneRound_172 : decode cX0_goOneRound 172 = .ok (.ifCond .eq 42, 3) := by decide +kernel
theorem dX0_goOneRound_175 : decode cX0_goOneRound 175 = .ok (.aload_n 0, 1) := by decide +kernel
theorem dX0_goOneRound_176 : decode cX0_goOneRound 176 = .ok (.dup, 1) := by decide +kernel
theorem dX0_goOneRound_177 : decode cX0_goOneRound 177 = .ok (.getfield 43, 3) := by decide +kernel
theorem dX0_goOneRound_180 : decode cX0_goOneRound 180 = .ok (.aload_n 0, 1) := by decide +kernel
theorem dX0_goOneRound_181 : decode cX0_goOneRound 181 = .ok (.getfield 52, 3) := by decide +kernel
theorem dX0_goOneRound_184 : decode cX0_goOneRound 184 = .ok (.iload_n 3, 1) := by decide +kernel
theorem dX0_goOneRound_185 : decode cX0_goOneRound 185 = .ok (.iaload, 1) := by decide +kernel
theorem dX0_goOneRound_186 : decode cX0_goOneRound 186 = .ok (.iadd, 1) := by decide +kernel
theorem dX0_goOneRound_187 : decode cX0_goOneRound 187 = .ok (.putfield 43, 3) := by decide +kernel
theorem dX0_goOneRound_190 : decode cX0_goOneRound 190 = .ok (.aload_n 0, 1) := by decide +kernel
theorem dX0_goOneRound_191 : decode cX0_goOneRound 191 = .ok (.getfield 52, 3) := by decide +kernel
theorem dX0_goOneRound_194 : decode cX0_goOneRound 194 = .ok (.iload_n 3, 1) := by decide +kernel
theorem dX0_goOneRound_195 : decode cX0_goOneRound 195 = .ok (.iconst 0, 1) := by decide +kernel
theorem dX0_goOneRound_196 : decode cX0_goOneRound 196 = .ok (.iastore, 1) := by decide +kernel
theorem dX0_goOneRound_197 : decode cX0_goOneRound 197 = .ok (.iload_n 2, 1) := by decide +kernel
theorem dX0_goOneRound_198 : decode cX0_goOneRound 198 = .ok (.aload_n 0, 1) := by decide +kernel
theorem dX0_goOneRound_199 : decode cX0_goOneRound 199 = .ok (.getfield 55, 3) := by decide +kernel
theorem dX0_goOneRound_202 : decode cX0_goOneRound 202 = .ok (.iload_n 3, 1) := by decide +kernel
theorem dX0_goOneRound_203 : decode cX0_goOneRound 203 = .ok (.iaload, 1) := by decide +kernel
theorem dX0_goOneRound_204 : decode cX0_goOneRound 204 = .ok (.ifCond .le 7, 3) := by decide +kernel
theorem dX0_goOneRound_207 : decode cX0_goOneRound 207 = .ok (.iconst 1, 1) := by decide +kernel
theorem dX0_goOneRound_208 : decode cX0_goOneRound 208 = .ok (.goto 4, 3) := by decide +kernel
theorem dX0_goOneRound_211 : decode cX0_goOneRound 211 = .ok (.iconst 0, 1) := by decide +kernel
theorem dX0_goOneRound_212 : decode cX0_goOneRound 212 = .ok (.ior, 1) := by decide +kernel
theorem dX0_goOneRound_213 : decode cX0_goOneRound 213 = .ok (.istore_n 2, 1) := by decide +kernel
theorem dX0_goOneRound_214 : decode cX0_goOneRound 214 = .ok (.aload_n 0, 1) := by decide +kernel
theorem dX0_goOneRound_215 : decode cX0_goOneRound 215 = .ok (.getfield 52, 3) := by decide +kernel
theorem dX0_goOneRound_218 : decode cX0_goOneRound 218 = .ok (.iload_n 3, 1) := by decide +kernel
theorem dX0_goOneRound_219 : decode cX0_goOneRound 219 = .ok (.dup2, 1) := by decide +kernel
theorem dX0_goOneRound_220 : decode cX0_goOneRound 220 = .ok (.iaload, 1) := by decide +kernel
theorem dX0_goOneRound_221 : decode cX0_goOneRound 221 = .ok (.aload_n 0, 1) := by decide +kernel
theorem dX0_goOneRound_222 : decode cX0_goOneRound 222 = .ok (.getfield 55, 3) := by decide +kernel
theorem dX0_goOneRound_225 : decode cX0_goOneRound 225 = .ok (.iload_n 3, 1) := by decide +kernel
theorem dX0_goOneRound_226 : decode cX0_goOneRound 226 = .ok (.iaload, 1) := by decide +kernel
theorem dX0_goOneRound_227 : decode cX0_goOneRound 227 = .ok (.iadd, 1) := by decide +kernel
theorem dX0_goOneRound_228 : decode cX0_goOneRound 228 = .ok (.iastore, 1) := by decide +kernel
theorem dX0_goOneRound_229 : decode cX0_goOneRound 229 = .ok (.iinc 3 1, 3) := by decide +kernel
theorem dX0_goOneRound_232 : decode cX0_goOneRound 232 = .ok (.goto (-71), 3) := by decide +kernel
theorem dX0_goOneRound_235 : decode cX0_goOneRound 235 = .ok (.aload_n 0, 1) := by decide +kernel
theorem dX0_goOneRound_236 : decode cX0_goOneRound 236 = .ok (.dup, 1) := by decide +kernel
theorem dX0_goOneRound_237 : decode cX0_goOneRound 237 = .ok (.getfield 43, 3) := by decide +kernel
theorem dX0_goOneRound_240 : decode cX0_goOneRound 240 = .ok (.iload_n 1, 1) := by decide +kernel
theorem dX0_goOneRound_241 : decode cX0_goOneRound 241 = .ok (.isub, 1) := by decide +kernel
theorem dX0_goOneRound_242 : decode cX0_goOneRound 242 = .ok (.putfield 43, 3) := by decide +kernel
theorem dX0_goOneRound_245 : decode cX0_goOneRound 245 = .ok (.iload_n 2, 1) := by decide +kernel
theorem dX0_goOneRound_246 : decode cX0_goOneRound 246 = .ok (.ireturn, 1) := by decide +kernel
theorem dX0_isDead_0 : decode cX0_isDead 0 = .ok (.iload_n 1, 1) := by decide +kernel
theorem dX0_isDead_1 : decode cX0_isDead 1 = .ok (.iconst 0, 1) := by decide +kernel
theorem dX0_isDead_2 : decode cX0_isDead 2 = .ok (.bipush 29, 2) := by decide +kernel
theorem dX0_isDead_4 : decode cX0_isDead 4 = .ok (.invokestatic 102, 3) := by decide +kernel
theorem dX0_isDead_7 : decode cX0_isDead 7 = .ok (.ifCond .eq 23, 3) := by decide +kernel
theorem dX0_isDead_10 : decode cX0_isDead 10 = .ok (.aload_n 0, 1) := by decide +kernel
theorem dX0_isDead_11 : decode cX0_isDead 11 = .ok (.getfield 19, 3) := by decide +kernel
theorem dX0_isDead_14 : decode cX0_isDead 14 = .ok (.iload_n 1, 1) := by decide +kernel
theorem dX0_isDead_15 : decode cX0_isDead 15 = .ok (.iaload, 1) := by decide +kernel
theorem dX0_isDead_16 : decode cX0_isDead 16 = .ok (.aload_n 0, 1) := by decide +kernel
theorem dX0_isDead_17 : decode cX0_isDead 17 = .ok (.getfield 74, 3) := by decide +kernel
theorem dX0_isDead_20 : decode cX0_isDead 20 = .ok (.getfield 106, 3) := by decide +kernel
theorem dX0_isDead_23 : decode cX0_isDead 23 = .ok (.if_icmp .gt 7, 3) := by decide +kernel
theorem dX0_isDead_26 : decode cX0_isDead 26 = .ok (.iconst 1, 1) := by decide +kernel
theorem dX0_isDead_27 : decode cX0_isDead 27 = .ok (.goto 4, 3) := by decide +kernel
theorem dX0_isDead_30 : decode cX0_isDead 30 = .ok (.iconst 0, 1) := by decide +kernel
theorem dX0_isDead_31 : decode cX0_isDead 31 = .ok (.ireturn, 1) := by decide +kernel
theorem dX0_payOut_0 : decode cX0_payOut 0 = .ok (.iconst 0, 1) := by decide +kernel
theorem dX0_payOut_1 : decode cX0_payOut 1 = .ok (.istore_n 3, 1) := by decide +kernel
theorem dX0_payOut_2 : decode cX0_payOut 2 = .ok (.iload_n 3, 1) := by decide +kernel
theorem dX0_payOut_3 : decode cX0_payOut 3 = .ok (.bipush 30, 2) := by decide +kernel
theorem dX0_payOut_5 : decode cX0_payOut 5 = .ok (.if_icmp .ge 98, 3) := by decide +kernel
theorem dX0_payOut_8 : decode cX0_payOut 8 = .ok (.aload_n 0, 1) := by decide +kernel
theorem dX0_payOut_9 : decode cX0_payOut 9 = .ok (.getfield 61, 3) := by decide +kernel
theorem dX0_payOut_12 : decode cX0_payOut 12 = .ok (.iload_n 3, 1) := by decide +kernel
theorem dX0_payOut_13 : decode cX0_payOut 13 = .ok (.iconst 0, 1) := by decide +kernel
theorem dX0_payOut_14 : decode cX0_payOut 14 = .ok (.iastore, 1) := by decide +kernel
theorem dX0_payOut_15 : decode cX0_payOut 15 = .ok (.aload_n 0, 1) := by decide +kernel
theorem dX0_payOut_16 : decode cX0_payOut 16 = .ok (.getfield 58, 3) := by decide +kernel
theorem dX0_payOut_19 : decode cX0_payOut 19 = .ok (.iload_n 3, 1) := by decide +kernel
theorem dX0_payOut_20 : decode cX0_payOut 20 = .ok (.iconst (-1), 1) := by decide +kernel
theorem dX0_payOut_21 : decode cX0_payOut 21 = .ok (.iastore, 1) := by decide +kernel
theorem dX0_payOut_22 : decode cX0_payOut 22 = .ok (.aload_n 0, 1) := by decide +kernel
theorem dX0_payOut_23 : decode cX0_payOut 23 = .ok (.getfield 52, 3) := by decide +kernel
theorem dX0_payOut_26 : decode cX0_payOut 26 = .ok (.iload_n 3, 1) := by decide +kernel
theorem dX0_payOut_27 : decode cX0_payOut 27 = .ok (.iaload, 1) := by decide +kernel
theorem dX0_payOut_28 : decode cX0_payOut 28 = .ok (.ifCond .le 69, 3) := by decide +kernel
theorem dX0_payOut_31 : decode cX0_payOut 31 = .ok (.aload_n 0, 1) := by decide +kernel
theorem dX0_payOut_32 : decode cX0_payOut 32 = .ok (.getfield 58, 3) := by decide +kernel
theorem dX0_payOut_35 : decode cX0_payOut 35 = .ok (.iload_n 3, 1) := by decide +kernel
theorem dX0_payOut_36 : decode cX0_payOut 36 = .ok (.aload_n 0, 1) := by decide +kernel
theorem dX0_payOut_37 : decode cX0_payOut 37 = .ok (.getfield 64, 3) := by decide +kernel
theorem dX0_payOut_40 : decode cX0_payOut 40 = .ok (.iload_n 3, 1) := by decide +kernel
theorem dX0_payOut_41 : decode cX0_payOut 41 = .ok (.aload_n 0, 1) := by decide +kernel
theorem dX0_payOut_42 : decode cX0_payOut 42 = .ok (.getfield 74, 3) := by decide +kernel
theorem dX0_payOut_45 : decode cX0_payOut 45 = .ok (.getfield 106, 3) := by decide +kernel
theorem dX0_payOut_48 : decode cX0_payOut 48 = .ok (.aload_n 0, 1) := by decide +kernel
theorem dX0_payOut_49 : decode cX0_payOut 49 = .ok (.getfield 9, 3) := by decide +kernel
theorem dX0_payOut_52 : decode cX0_payOut 52 = .ok (.invokevirtual 224, 3) := by decide +kernel
theorem dX0_payOut_55 : decode cX0_payOut 55 = .ok (.iastore, 1) := by decide +kernel
theorem dX0_payOut_56 : decode cX0_payOut 56 = .ok (.aload_n 0, 1) := by decide +kernel
theorem dX0_payOut_57 : decode cX0_payOut 57 = .ok (.getfield 61, 3) := by decide +kernel
theorem dX0_payOut_60 : decode cX0_payOut 60 = .ok (.iload_n 3, 1) := by decide +kernel
theorem dX0_payOut_61 : decode cX0_payOut 61 = .ok (.aload_n 0, 1) := by decide +kernel
theorem dX0_payOut_62 : decode cX0_payOut 62 = .ok (.iload_n 3, 1) := by decide +kernel
theorem dX0_payOut_63 : decode cX0_payOut 63 = .ok (.aload_n 1, 1) := by decide +kernel
theorem dX0_payOut_64 : decode cX0_payOut 64 = .ok (.iload_n 2, 1) := by decide +kernel
theorem dX0_payOut_65 : decode cX0_payOut 65 = .ok (.invokevirtual 227, 3) := by decide +kernel
theorem dX0_payOut_68 : decode cX0_payOut 68 = .ok (.iastore, 1) := by decide +kernel
theorem dX0_payOut_69 : decode cX0_payOut 69 = .ok (.aload_n 0, 1) := by decide +kernel
theorem dX0_payOut_70 : decode cX0_payOut 70 = .ok (.dup, 1) := by decide +kernel
theorem dX0_payOut_71 : decode cX0_payOut 71 = .ok (.getfield 43, 3) := by decide +kernel
theorem dX0_payOut_74 : decode cX0_payOut 74 = .ok (.aload_n 0, 1) := by decide +kernel
theorem dX0_payOut_75 : decode cX0_payOut 75 = .ok (.getfield 61, 3) := by decide +kernel
theorem dX0_payOut_78 : decode cX0_payOut 78 = .ok (.iload_n 3, 1) := by decide +kernel
theorem dX0_payOut_79 : decode cX0_payOut 79 = .ok (.iaload, 1) := by decide +kernel
theorem dX0_payOut_80 : decode cX0_payOut 80 = .ok (.ifCond .ne 12, 3) := by decide +kernel
theorem dX0_payOut_83 : decode cX0_payOut 83 = .ok (.aload_n 0, 1) := by decide +kernel
theorem dX0_payOut_84 : decode cX0_payOut 84 = .ok (.getfield 52, 3) := by decide +kernel
theorem dX0_payOut_87 : decode cX0_payOut 87 = .ok (.iload_n 3, 1) := by decide +kernel
theorem dX0_payOut_88 : decode cX0_payOut 88 = .ok (.iaload, 1) := by decide +kernel
theorem dX0_payOut_89 : decode cX0_payOut 89 = .ok (.goto 4, 3) := by decide +kernel
theorem dX0_payOut_92 : decode cX0_payOut 92 = .ok (.iconst 0, 1) := by decide +kernel
theorem dX0_payOut_93 : decode cX0_payOut 93 = .ok (.iadd, 1) := by decide +kernel
theorem dX0_payOut_94 : decode cX0_payOut 94 = .ok (.putfield 43, 3) := by decide +kernel
theorem dX0_payOut_97 : decode cX0_payOut 97 = .ok (.iinc 3 1, 3) := by decide +kernel
theorem dX0_payOut_100 : decode cX0_payOut 100 = .ok (.goto (-98), 3) := by decide +kernel
theorem dX0_payOut_103 : decode cX0_payOut 103 = .ok (.return_, 1) := by decide +kernel
theorem dX0_gottenBy_0 : decode cX0_gottenBy 0 = .ok (.aload_n 0, 1) := by decide +kernel
theorem dX0_gottenBy_1 : decode cX0_gottenBy 1 = .ok (.getfield 58, 3) := by decide +kernel
theorem dX0_gottenBy_4 : decode cX0_gottenBy 4 = .ok (.iload_n 1, 1) := by decide +kernel
theorem dX0_gottenBy_5 : decode cX0_gottenBy 5 = .ok (.iaload, 1) := by decide +kernel
theorem dX0_gottenBy_6 : decode cX0_gottenBy 6 = .ok (.iconst (-1), 1) := by decide +kernel
theorem dX0_gottenBy_7 : decode cX0_gottenBy 7 = .ok (.if_icmp .eq 45, 3) := by decide +kernel
theorem dX0_gottenBy_10 : decode cX0_gottenBy 10 = .ok (.aload_n 0, 1) := by decide +kernel
theorem dX0_gottenBy_11 : decode cX0_gottenBy 11 = .ok (.getfield 64, 3) := by decide +kernel
theorem dX0_gottenBy_14 : decode cX0_gottenBy 14 = .ok (.aload_n 0, 1) := by decide +kernel
theorem dX0_gottenBy_15 : decode cX0_gottenBy 15 = .ok (.getfield 58, 3) := by decide +kernel
theorem dX0_gottenBy_18 : decode cX0_gottenBy 18 = .ok (.iload_n 1, 1) := by decide +kernel
theorem dX0_gottenBy_19 : decode cX0_gottenBy 19 = .ok (.iaload, 1) := by decide +kernel
theorem dX0_gottenBy_20 : decode cX0_gottenBy 20 = .ok (.invokevirtual 231, 3) := by decide +kernel
theorem dX0_gottenBy_23 : decode cX0_gottenBy 23 = .ok (.getfield 235, 3) := by decide +kernel
theorem dX0_gottenBy_26 : decode cX0_gottenBy 26 = .ok (.istore 4, 2) := by decide +kernel
theorem dX0_gottenBy_28 : decode cX0_gottenBy 28 = .ok (.aload_n 0, 1) := by decide +kernel
theorem dX0_gottenBy_29 : decode cX0_gottenBy 29 = .ok (.getfield 52, 3) := by decide +kernel
theorem dX0_gottenBy_32 : decode cX0_gottenBy 32 = .ok (.iload_n 1, 1) := by decide +kernel
theorem dX0_gottenBy_33 : decode cX0_gottenBy 33 = .ok (.iaload, 1) := by decide +kernel
theorem dX0_gottenBy_34 : decode cX0_gottenBy 34 = .ok (.aload_n 0, 1) := by decide +kernel
theorem dX0_gottenBy_35 : decode cX0_gottenBy 35 = .ok (.getfield 52, 3) := by decide +kernel
theorem dX0_gottenBy_38 : decode cX0_gottenBy 38 = .ok (.iload_n 1, 1) := by decide +kernel
theorem dX0_gottenBy_39 : decode cX0_gottenBy 39 = .ok (.iaload, 1) := by decide +kernel
theorem dX0_gottenBy_40 : decode cX0_gottenBy 40 = .ok (.i2l, 1) := by decide +kernel
theorem dX0_gottenBy_41 : decode cX0_gottenBy 41 = .ok (.iload 4, 2) := by decide +kernel
theorem dX0_gottenBy_43 : decode cX0_gottenBy 43 = .ok (.i2l, 1) := by decide +kernel
theorem dX0_gottenBy_44 : decode cX0_gottenBy 44 = .ok (.lmul, 1) := by decide +kernel
theorem dX0_gottenBy_45 : decode cX0_gottenBy 45 = .ok (.ldc2_w 146, 3) := by decide +kernel
theorem dX0_gottenBy_48 : decode cX0_gottenBy 48 = .ok (.ldiv, 1) := by decide +kernel
theorem dX0_gottenBy_49 : decode cX0_gottenBy 49 = .ok (.l2i, 1) := by decide +kernel
theorem dX0_gottenBy_50 : decode cX0_gottenBy 50 = .ok (.isub, 1) := by decide +kernel
theorem dX0_gottenBy_51 : decode cX0_gottenBy 51 = .ok (.ireturn, 1) := by decide +kernel
theorem dX0_gottenBy_52 : decode cX0_gottenBy 52 = .ok (.aload_n 0, 1) := by decide +kernel
theorem dX0_gottenBy_53 : decode cX0_gottenBy 53 = .ok (.getfield 64, 3) := by decide +kernel
theorem dX0_gottenBy_56 : decode cX0_gottenBy 56 = .ok (.aload_n 0, 1) := by decide +kernel
theorem dX0_gottenBy_57 : decode cX0_gottenBy 57 = .ok (.getfield 64, 3) := by decide +kernel
theorem dX0_gottenBy_60 : decode cX0_gottenBy 60 = .ok (.iload_n 1, 1) := by decide +kernel
theorem dX0_gottenBy_61 : decode cX0_gottenBy 61 = .ok (.iload_n 3, 1) := by decide +kernel
theorem dX0_gottenBy_62 : decode cX0_gottenBy 62 = .ok (.invokevirtual 240, 3) := by decide +kernel
theorem dX0_gottenBy_65 : decode cX0_gottenBy 65 = .ok (.invokevirtual 243, 3) := by decide +kernel
theorem dX0_gottenBy_68 : decode cX0_gottenBy 68 = .ok (.astore 4, 2) := by decide +kernel
theorem dX0_gottenBy_70 : decode cX0_gottenBy 70 = .ok (.aload 4, 2) := by decide +kernel
theorem dX0_gottenBy_72 : decode cX0_gottenBy 72 = .ok (.aload_n 0, 1) := by decide +kernel
theorem dX0_gottenBy_73 : decode cX0_gottenBy 73 = .ok (.getfield 9, 3) := by decide +kernel
theorem dX0_gottenBy_76 : decode cX0_gottenBy 76 = .ok (.invokevirtual 95, 3) := by decide +kernel
theorem dX0_gottenBy_79 : decode cX0_gottenBy 79 = .ok (.ifCond .eq 27, 3) := by decide +kernel
theorem dX0_gottenBy_82 : decode cX0_gottenBy 82 = .ok (.aload 4, 2) := by decide +kernel
theorem dX0_gottenBy_84 : decode cX0_gottenBy 84 = .ok (.getfield 246, 3) := by decide +kernel
theorem dX0_gottenBy_87 : decode cX0_gottenBy 87 = .ok (.aload_n 0, 1) := by decide +kernel
theorem dX0_gottenBy_88 : decode cX0_gottenBy 88 = .ok (.getfield 74, 3) := by decide +kernel
theorem dX0_gottenBy_91 : decode cX0_gottenBy 91 = .ok (.getfield 246, 3) := by decide +kernel
theorem dX0_gottenBy_94 : decode cX0_gottenBy 94 = .ok (.isub, 1) := by decide +kernel
theorem dX0_gottenBy_95 : decode cX0_gottenBy 95 = .ok (.aload_n 2, 1) := by decide +kernel
theorem dX0_gottenBy_96 : decode cX0_gottenBy 96 = .ok (.getfield 249, 3) := by decide +kernel
theorem dX0_gottenBy_99 : decode cX0_gottenBy 99 = .ok (.if_icmp .gt 7, 3) := by decide +kernel
theorem dX0_gottenBy_102 : decode cX0_gottenBy 102 = .ok (.iconst 1, 1) := by decide +kernel
theorem dX0_gottenBy_103 : decode cX0_gottenBy 103 = .ok (.goto 4, 3) := by decide +kernel
theorem dX0_gottenBy_106 : decode cX0_gottenBy 106 = .ok (.iconst 0, 1) := by decide +kernel
theorem dX0_gottenBy_107 : decode cX0_gottenBy 107 = .ok (.istore 5, 2) := by decide +kernel
theorem dX0_gottenBy_109 : decode cX0_gottenBy 109 = .ok (.iload 5, 2) := by decide +kernel
theorem dX0_gottenBy_111 : decode cX0_gottenBy 111 = .ok (.ifCond .eq 12, 3) := by decide +kernel
theorem dX0_gottenBy_114 : decode cX0_gottenBy 114 = .ok (.aload_n 0, 1) := by decide +kernel
theorem dX0_gottenBy_115 : decode cX0_gottenBy 115 = .ok (.getfield 52, 3) := by decide +kernel
theorem dX0_gottenBy_118 : decode cX0_gottenBy 118 = .ok (.iload_n 1, 1) := by decide +kernel
theorem dX0_gottenBy_119 : decode cX0_gottenBy 119 = .ok (.iaload, 1) := by decide +kernel
theorem dX0_gottenBy_120 : decode cX0_gottenBy 120 = .ok (.goto 4, 3) := by decide +kernel
theorem dX0_gottenBy_123 : decode cX0_gottenBy 123 = .ok (.iconst 0, 1) := by decide +kernel
theorem dX0_gottenBy_124 : decode cX0_gottenBy 124 = .ok (.ireturn, 1) := by decide +kernel
theorem dX1_init_0 : decode cX1_init 0 = .ok (.aload_n 0, 1) := by decide +kernel
theorem dX1_init_1 : decode cX1_init 1 = .ok (.invokespecial 3, 3) := by decide +kernel
theorem dX1_init_4 : decode cX1_init 4 = .ok (.aload_n 0, 1) := by decide +kernel
theorem dX1_init_5 : decode cX1_init 5 = .ok (.iconst 0, 1) := by decide +kernel
theorem dX1_init_6 : decode cX1_init 6 = .ok (.putfield 9, 3) := by decide +kernel
theorem dX1_init_9 : decode cX1_init 9 = .ok (.aload_n 0, 1) := by decide +kernel
theorem dX1_init_10 : decode cX1_init 10 = .ok (.iconst 0, 1) := by decide +kernel
theorem dX1_init_11 : decode cX1_init 11 = .ok (.putfield 15, 3) := by decide +kernel
theorem dX1_init_14 : decode cX1_init 14 = .ok (.aload_n 0, 1) := by decide +kernel
theorem dX1_init_15 : decode cX1_init 15 = .ok (.bipush 31, 2) := by decide +kernel
theorem dX1_init_17 : decode cX1_init 17 = .ok (.anewarray 18, 3) := by decide +kernel
theorem dX1_init_20 : decode cX1_init 20 = .ok (.putfield 20, 3) := by decide +kernel
theorem dX1_init_23 : decode cX1_init 23 = .ok (.aload_n 0, 1) := by decide +kernel
theorem dX1_init_24 : decode cX1_init 24 = .ok (.iconst 0, 1) := by decide +kernel
theorem dX1_init_25 : decode cX1_init 25 = .ok (.putfield 24, 3) := by decide +kernel
theorem dX1_init_28 : decode cX1_init 28 = .ok (.aload_n 0, 1) := by decide +kernel
theorem dX1_init_29 : decode cX1_init 29 = .ok (.bipush 31, 2) := by decide +kernel
theorem dX1_init_31 : decode cX1_init 31 = .ok (.anewarray 27, 3) := by decide +kernel
theorem dX1_init_34 : decode cX1_init 34 = .ok (.putfield 29, 3) := by decide +kernel
theorem dX1_init_37 : decode cX1_init 37 = .ok (.aload_n 0, 1) := by decide +kernel
theorem dX1_init_38 : decode cX1_init 38 = .ok (.iconst 0, 1) := by decide +kernel
theorem dX1_init_39 : decode cX1_init 39 = .ok (.putfield 33, 3) := by decide +kernel
theorem dX1_init_42 : decode cX1_init 42 = .ok (.aload_n 0, 1) := by decide +kernel
theorem dX1_init_43 : decode cX1_init 43 = .ok (.bipush 6, 2) := by decide +kernel
theorem dX1_init_45 : decode cX1_init 45 = .ok (.anewarray 36, 3) := by decide +kernel
theorem dX1_init_48 : decode cX1_init 48 = .ok (.putfield 38, 3) := by decide +kernel
theorem dX1_init_51 : decode cX1_init 51 = .ok (.aload_n 0, 1) := by decide +kernel
theorem dX1_init_52 : decode cX1_init 52 = .ok (.iconst 0, 1) := by decide +kernel
theorem dX1_init_53 : decode cX1_init 53 = .ok (.putfield 42, 3) := by decide +kernel
theorem dX1_init_56 : decode cX1_init 56 = .ok (.aload_n 0, 1) := by decide +kernel
theorem dX1_init_57 : decode cX1_init 57 = .ok (.bipush 61, 2) := by decide +kernel
theorem dX1_init_59 : decode cX1_init 59 = .ok (.anewarray 45, 3) := by decide +kernel
theorem dX1_init_62 : decode cX1_init 62 = .ok (.putfield 47, 3) := by decide +kernel
theorem dX1_init_65 : decode cX1_init 65 = .ok (.aload_n 0, 1) := by decide +kernel
theorem dX1_init_66 : decode cX1_init 66 = .ok (.iconst 0, 1) := by decide +kernel
theorem dX1_init_67 : decode cX1_init 67 = .ok (.putfield 51, 3) := by decide +kernel
theorem dX1_init_70 : decode cX1_init 70 = .ok (.aload_n 0, 1) := by decide +kernel
theorem dX1_init_71 : decode cX1_init 71 = .ok (.sipush 201, 3) := by decide +kernel
theorem dX1_init_74 : decode cX1_init 74 = .ok (.anewarray 54, 3) := by decide +kernel
theorem dX1_init_77 : decode cX1_init 77 = .ok (.putfield 56, 3) := by decide +kernel
theorem dX1_init_80 : decode cX1_init 80 = .ok (.aload_n 0, 1) := by decide +kernel
theorem dX1_init_81 : decode cX1_init 81 = .ok (.iconst 0, 1) := by decide +kernel
theorem dX1_init_82 : decode cX1_init 82 = .ok (.putfield 60, 3) := by decide +kernel
theorem dX1_init_85 : decode cX1_init 85 = .ok (.aload_n 0, 1) := by decide +kernel
theorem dX1_init_86 : decode cX1_init 86 = .ok (.sipush 201, 3) := by decide +kernel
theorem dX1_init_89 : decode cX1_init 89 = .ok (.anewarray 54, 3) := by decide +kernel
theorem dX1_init_92 : decode cX1_init 92 = .ok (.putfield 63, 3) := by decide +kernel
theorem dX1_init_95 : decode cX1_init 95 = .ok (.aload_n 0, 1) := by decide +kernel
theorem dX1_init_96 : decode cX1_init 96 = .ok (.iconst 0, 1) := by decide +kernel
theorem dX1_init_97 : decode cX1_init 97 = .ok (.putfield 66, 3) := by decide +kernel
theorem dX1_init_100 : decode cX1_init 100 = .ok (.aload_n 0, 1) := by decide +kernel
theorem dX1_init_101 : decode cX1_init 101 = .ok (.bipush 13, 2) := by decide +kernel
theorem dX1_init_103 : decode cX1_init 103 = .ok (.anewarray 69, 3) := by decide +kernel
theorem dX1_init_106 : decode cX1_init 106 = .ok (.putfield 71, 3) := by decide +kernel
theorem dX1_init_109 : decode cX1_init 109 = .ok (.aload_n 0, 1) := by decide +kernel
theorem dX1_init_110 : decode cX1_init 110 = .ok (.iconst 0, 1) := by decide +kernel
theorem dX1_init_111 : decode cX1_init 111 = .ok (.putfield 75, 3) := by decide +kernel
theorem dX1_init_114 : decode cX1_init 114 = .ok (.new 18, 3) := by decide +kernel
theorem dX1_init_117 : decode cX1_init 117 = .ok (.dup, 1) := by decide +kernel
theorem dX1_init_118 : decode cX1_init 118 = .ok (.iconst (-1), 1) := by decide +kernel
theorem dX1_init_119 : decode cX1_init 119 = .ok (.iconst (-1), 1) := by decide +kernel
theorem dX1_init_120 : decode cX1_init 120 = .ok (.invokespecial 78, 3) := by decide +kernel
theorem dX1_init_123 : decode cX1_init 123 = .ok (.astore_n 1, 1) := by decide +kernel
theorem dX1_init_124 : decode cX1_init 124 = .ok (.iconst 0, 1) := by decide +kernel
theorem dX1_init_125 : decode cX1_init 125 = .ok (.istore_n 2, 1) := by decide +kernel
theorem dX1_init_126 : decode cX1_init 126 = .ok (.iload_n 2, 1) := by decide +kernel
theorem dX1_init_127 : decode cX1_init 127 = .ok (.aload_n 0, 1) := by decide +kernel
theorem dX1_init_128 : decode cX1_init 128 = .ok (.getfield 20, 3) := by decide +kernel
theorem dX1_init_131 : decode cX1_init 131 = .ok (.arraylength, 1) := by decide +kernel
theorem dX1_init_132 : decode cX1_init 132 = .ok (.if_icmp .ge 16, 3) := by decide +kernel
theorem dX1_init_135 : decode cX1_init 135 = .ok (.aload_n 0, 1) := by decide +kernel
theorem dX1_init_136 : decode cX1_init 136 = .ok (.getfield 20, 3) := by decide +kernel
theorem dX1_init_139 : decode cX1_init 139 = .ok (.iload_n 2, 1) := by decide +kernel
theorem dX1_init_140 : decode cX1_init 140 = .ok (.aload_n 1, 1) := by decide +kernel
theorem dX1_init_141 : decode cX1_init 141 = .ok (.aastore, 1) := by decide +kernel
theorem dX1_init_142 : decode cX1_init 142 = .ok (.iinc 2 1, 3) := by decide +kernel
theorem dX1_init_145 : decode cX1_init 145 = .ok (.goto (-19), 3) := by decide +kernel
theorem dX1_init_148 : decode cX1_init 148 = .ok (.new 27, 3) := by decide +kernel
theorem dX1_init_151 : decode cX1_init 151 = .ok (.dup, 1) := by decide +kernel
theorem dX1_init_152 : decode cX1_init 152 = .ok (.iconst 0, 1) := by decide +kernel
theorem dX1_init_153 : decode cX1_init 153 = .ok (.iconst 0, 1) := by decide +kernel
theorem dX1_init_154 : decode cX1_init 154 = .ok (.iconst 0, 1) := by decide +kernel
theorem dX1_init_155 : decode cX1_init 155 = .ok (.iconst 0, 1) := by decide +kernel
theorem dX1_init_156 : decode cX1_init 156 = .ok (.invokespecial 81, 3) := by decide +kernel
theorem dX1_init_159 : decode cX1_init 159 = .ok (.astore_n 2, 1) := by decide +kernel
theorem dX1_init_160 : decode cX1_init 160 = .ok (.iconst 0, 1) := by decide +kernel
theorem dX1_init_161 : decode cX1_init 161 = .ok (.istore_n 3, 1) := by decide +kernel
theorem dX1_init_162 : decode cX1_init 162 = .ok (.iload_n 3, 1) := by decide +kernel
theorem dX1_init_163 : decode cX1_init 163 = .ok (.aload_n 0, 1) := by decide +kernel
theorem dX1_init_164 : decode cX1_init 164 = .ok (.getfield 29, 3) := by decide +kernel
theorem dX1_init_167 : decode cX1_init 167 = .ok (.arraylength, 1) := by decide +kernel
theorem dX1_init_168 : decode cX1_init 168 = .ok (.if_icmp .ge 16, 3) := by decide +kernel
theorem dX1_init_171 : decode cX1_init 171 = .ok (.aload_n 0, 1) := by decide +kernel
theorem dX1_init_172 : decode cX1_init 172 = .ok (.getfield 29, 3) := by decide +kernel
theorem dX1_init_175 : decode cX1_init 175 = .ok (.iload_n 3, 1) := by decide +kernel
theorem dX1_init_176 : decode cX1_init 176 = .ok (.aload_n 2, 1) := by decide +kernel
theorem dX1_init_177 : decode cX1_init 177 = .ok (.aastore, 1) := by decide +kernel
theorem dX1_init_178 : decode cX1_init 178 = .ok (.iinc 3 1, 3) := by decide +kernel
theorem dX1_init_181 : decode cX1_init 181 = .ok (.goto (-19), 3) := by decide +kernel
theorem dX1_init_184 : decode cX1_init 184 = .ok (.new 36, 3) := by decide +kernel
theorem dX1_init_187 : decode cX1_init 187 = .ok (.dup, 1) := by decide +kernel
theorem dX1_init_188 : decode cX1_init 188 = .ok (.iconst (-1), 1) := by decide +kernel
theorem dX1_init_189 : decode cX1_init 189 = .ok (.iconst 0, 1) := by decide +kernel
theorem dX1_init_190 : decode cX1_init 190 = .ok (.invokespecial 84, 3) := by decide +kernel
theorem dX1_init_193 : decode cX1_init 193 = .ok (.astore_n 3, 1) := by decide +kernel
theorem dX1_init_194 : decode cX1_init 194 = .ok (.iconst 0, 1) := by decide +kernel
theorem dX1_init_195 : decode cX1_init 195 = .ok (.istore 4, 2) := by decide +kernel
theorem dX1_init_197 : decode cX1_init 197 = .ok (.iload 4, 2) := by decide +kernel
theorem dX1_init_199 : decode cX1_init 199 = .ok (.aload_n 0, 1) := by decide +kernel
theorem dX1_init_200 : decode cX1_init 200 = .ok (.getfield 38, 3) := by decide +kernel
theorem dX1_init_203 : decode cX1_init 203 = .ok (.arraylength, 1) := by decide +kernel
theorem dX1_init_204 : decode cX1_init 204 = .ok (.if_icmp .ge 17, 3) := by decide +kernel
theorem dX1_init_207 : decode cX1_init 207 = .ok (.aload_n 0, 1) := by decide +kernel
theorem dX1_init_208 : decode cX1_init 208 = .ok (.getfield 38, 3) := by decide +kernel
theorem dX1_init_211 : decode cX1_init 211 = .ok (.iload 4, 2) := by decide +kernel
theorem dX1_init_213 : decode cX1_init 213 = .ok (.aload_n 3, 1) := by decide +kernel
theorem dX1_init_214 : decode cX1_init 214 = .ok (.aastore, 1) := by decide +kernel
theorem dX1_init_215 : decode cX1_init 215 = .ok (.iinc 4 1, 3) := by decide +kernel
theorem dX1_init_218 : decode cX1_init 218 = .ok (.goto (-21), 3) := by decide +kernel
theorem dX1_init_221 : decode cX1_init 221 = .ok (.new 45, 3) := by decide +kernel
theorem dX1_init_224 : decode cX1_init 224 = .ok (.dup, 1) := by decide +kernel
theorem dX1_init_225 : decode cX1_init 225 = .ok (.iconst (-1), 1) := by decide +kernel
theorem dX1_init_226 : decode cX1_init 226 = .ok (.iconst (-1), 1) := by decide +kernel
theorem dX1_init_227 : decode cX1_init 227 = .ok (.sipush 1000, 3) := by decide +kernel
theorem dX1_init_230 : decode cX1_init 230 = .ok (.invokespecial 85, 3) := by decide +kernel
theorem dX1_init_233 : decode cX1_init 233 = .ok (.astore 4, 2) := by decide +kernel
theorem dX1_init_235 : decode cX1_init 235 = .ok (.iconst 0, 1) := by decide +kernel
theorem dX1_init_236 : decode cX1_init 236 = .ok (.istore 5, 2) := by decide +kernel
theorem dX1_init_238 : decode cX1_init 238 = .ok (.iload 5, 2) := by decide +kernel
theorem dX1_init_240 : decode cX1_init 240 = .ok (.aload_n 0, 1) := by decide +kernel
theorem dX1_init_241 : decode cX1_init 241 = .ok (.getfield 47, 3) := by decide +kernel
theorem dX1_init_244 : decode cX1_init 244 = .ok (.arraylength, 1) := by decide +kernel
theorem dX1_init_245 : decode cX1_init 245 = .ok (.if_icmp .ge 18, 3) := by decide +kernel
theorem dX1_init_248 : decode cX1_init 248 = .ok (.aload_n 0, 1) := by decide +kernel
theorem dX1_init_249 : decode cX1_init 249 = .ok (.getfield 47, 3) := by decide +kernel
theorem dX1_init_252 : decode cX1_init 252 = .ok (.iload 5, 2) := by decide +kernel
theorem dX1_init_254 : decode cX1_init 254 = .ok (.aload 4, 2) := by decide +kernel
theorem dX1_init_256 : decode cX1_init 256 = .ok (.aastore, 1) := by decide +kernel
theorem dX1_init_257 : decode cX1_init 257 = .ok (.iinc 5 1, 3) := by decide +kernel
theorem dX1_init_260 : decode cX1_init 260 = .ok (.goto (-22), 3) := by decide +kernel
theorem dX1_init_263 : decode cX1_init 263 = .ok (.new 54, 3) := by decide +kernel
theorem dX1_init_266 : decode cX1_init 266 = .ok (.dup, 1) := by decide +kernel
theorem dX1_init_267 : decode cX1_init 267 = .ok (.iconst (-1), 1) := by decide +kernel
theorem dX1_init_268 : decode cX1_init 268 = .ok (.iconst (-1), 1) := by decide +kernel
theorem dX1_init_269 : decode cX1_init 269 = .ok (.iconst (-1), 1) := by decide +kernel
theorem dX1_init_270 : decode cX1_init 270 = .ok (.iconst (-1), 1) := by decide +kernel
theorem dX1_init_271 : decode cX1_init 271 = .ok (.iconst (-1), 1) := by decide +kernel
theorem dX1_init_272 : decode cX1_init 272 = .ok (.ldc 88, 2) := by decide +kernel
theorem dX1_init_274 : decode cX1_init 274 = .ok (.invokespecial 89, 3) := by decide +kernel
theorem dX1_init_277 : decode cX1_init 277 = .ok (.astore 5, 2) := by decide +kernel
theorem dX1_init_279 : decode cX1_init 279 = .ok (.iconst 0, 1) := by decide +kernel
theorem dX1_init_280 : decode cX1_init 280 = .ok (.istore 6, 2) := by decide +kernel
theorem dX1_init_282 : decode cX1_init 282 = .ok (.iload 6, 2) := by decide +kernel
theorem dX1_init_284 : decode cX1_init 284 = .ok (.aload_n 0, 1) := by decide +kernel
theorem dX1_init_285 : decode cX1_init 285 = .ok (.getfield 56, 3) := by decide +kernel
theorem dX1_init_288 : decode cX1_init 288 = .ok (.arraylength, 1) := by decide +kernel
theorem dX1_init_289 : decode cX1_init 289 = .ok (.if_icmp .ge 18, 3) := by decide +kernel
theorem dX1_init_292 : decode cX1_init 292 = .ok (.aload_n 0, 1) := by decide +kernel
theorem dX1_init_293 : decode cX1_init 293 = .ok (.getfield 56, 3) := by decide +kernel
theorem dX1_init_296 : decode cX1_init 296 = .ok (.iload 6, 2) := by decide +kernel
theorem dX1_init_298 : decode cX1_init 298 = .ok (.aload 5, 2) := by decide +kernel
theorem dX1_init_300 : decode cX1_init 300 = .ok (.aastore, 1) := by decide +kernel
theorem dX1_init_301 : decode cX1_init 301 = .ok (.iinc 6 1, 3) := by decide +kernel
theorem dX1_init_304 : decode cX1_init 304 = .ok (.goto (-22), 3) := by decide +kernel
theorem dX1_init_307 : decode cX1_init 307 = .ok (.iconst 0, 1) := by decide +kernel
theorem dX1_init_308 : decode cX1_init 308 = .ok (.istore 6, 2) := by decide +kernel
theorem dX1_init_310 : decode cX1_init 310 = .ok (.iload 6, 2) := by decide +kernel
theorem dX1_init_312 : decode cX1_init 312 = .ok (.aload_n 0, 1) := by decide +kernel
theorem dX1_init_313 : decode cX1_init 313 = .ok (.getfield 63, 3) := by decide +kernel
theorem dX1_init_316 : decode cX1_init 316 = .ok (.arraylength, 1) := by decide +kernel
theorem dX1_init_317 : decode cX1_init 317 = .ok (.if_icmp .ge 18, 3) := by decide +kernel
theorem dX1_init_320 : decode cX1_init 320 = .ok (.aload_n 0, 1) := by decide +kernel
theorem dX1_init_321 : decode cX1_init 321 = .ok (.getfield 63, 3) := by decide +kernel
theorem dX1_init_324 : decode cX1_init 324 = .ok (.iload 6, 2) := by decide +kernel
theorem dX1_init_326 : decode cX1_init 326 = .ok (.aload 5, 2) := by decide +kernel
theorem dX1_init_328 : decode cX1_init 328 = .ok (.aastore, 1) := by decide +kernel
theorem dX1_init_329 : decode cX1_init 329 = .ok (.iinc 6 1, 3) := by decide +kernel
theorem dX1_init_332 : decode cX1_init 332 = .ok (.goto (-22), 3) := by decide +kernel
theorem dX1_init_335 : decode cX1_init 335 = .ok (.new 69, 3) := by decide +kernel
theorem dX1_init_338 : decode cX1_init 338 = .ok (.dup, 1) := by decide +kernel
theorem dX1_init_339 : decode cX1_init 339 = .ok (.invokespecial 92, 3) := by decide +kernel
theorem dX1_init_342 : decode cX1_init 342 = .ok (.astore 6, 2) := by decide +kernel
theorem dX1_init_344 : decode cX1_init 344 = .ok (.iconst 0, 1) := by decide +kernel
theorem dX1_init_345 : decode cX1_init 345 = .ok (.istore 7, 2) := by decide +kernel
theorem dX1_init_347 : decode cX1_init 347 = .ok (.iload 7, 2) := by decide +kernel
theorem dX1_init_349 : decode cX1_init 349 = .ok (.aload_n 0, 1) := by decide +kernel
theorem dX1_init_350 : decode cX1_init 350 = .ok (.getfield 71, 3) := by decide +kernel
theorem dX1_init_353 : decode cX1_init 353 = .ok (.arraylength, 1) := by decide +kernel
theorem dX1_init_354 : decode cX1_init 354 = .ok (.if_icmp .ge 18, 3) := by decide +kernel
theorem dX1_init_357 : decode cX1_init 357 = .ok (.aload_n 0, 1) := by decide +kernel
theorem dX1_init_358 : decode cX1_init 358 = .ok (.getfield 71, 3) := by decide +kernel
theorem dX1_init_361 : decode cX1_init 361 = .ok (.iload 7, 2) := by decide +kernel
theorem dX1_init_363 : decode cX1_init 363 = .ok (.aload 6, 2) := by decide +kernel
theorem dX1_init_365 : decode cX1_init 365 = .ok (.aastore, 1) := by decide +kernel
theorem dX1_init_366 : decode cX1_init 366 = .ok (.iinc 7 1, 3) := by decide +kernel
theorem dX1_init_369 : decode cX1_init 369 = .ok (.goto (-22), 3) := by decide +kernel
theorem dX1_init_372 : decode cX1_init 372 = .ok (.return_, 1) := by decide +kernel
theorem dX1_personAt_0 : decode cX1_personAt 0 = .ok (.aload_n 0, 1) := by decide +kernel
theorem dX1_personAt_1 : decode cX1_personAt 1 = .ok (.getfield 20, 3) := by decide +kernel
theorem dX1_personAt_4 : decode cX1_personAt 4 = .ok (.iload_n 1, 1) := by decide +kernel
theorem dX1_personAt_5 : decode cX1_personAt 5 = .ok (.ifCond .lt 15, 3) := by decide +kernel
theorem dX1_personAt_8 : decode cX1_personAt 8 = .ok (.iload_n 1, 1) := by decide +kernel
theorem dX1_personAt_9 : decode cX1_personAt 9 = .ok (.aload_n 0, 1) := by decide +kernel
theorem dX1_personAt_10 : decode cX1_personAt 10 = .ok (.getfield 24, 3) := by decide +kernel
theorem dX1_personAt_13 : decode cX1_personAt 13 = .ok (.if_icmp .ge 7, 3) := by decide +kernel
theorem dX1_personAt_16 : decode cX1_personAt 16 = .ok (.iload_n 1, 1) := by decide +kernel
theorem dX1_personAt_17 : decode cX1_personAt 17 = .ok (.goto 5, 3) := by decide +kernel
theorem dX1_personAt_20 : decode cX1_personAt 20 = .ok (.bipush 30, 2) := by decide +kernel
theorem dX1_personAt_22 : decode cX1_personAt 22 = .ok (.aaload, 1) := by decide +kernel
theorem dX1_personAt_23 : decode cX1_personAt 23 = .ok (.areturn, 1) := by decide +kernel
theorem dX1_workAt_0 : decode cX1_workAt 0 = .ok (.aload_n 0, 1) := by decide +kernel
theorem dX1_workAt_1 : decode cX1_workAt 1 = .ok (.getfield 29, 3) := by decide +kernel
theorem dX1_workAt_4 : decode cX1_workAt 4 = .ok (.iload_n 1, 1) := by decide +kernel
theorem dX1_workAt_5 : decode cX1_workAt 5 = .ok (.ifCond .lt 15, 3) := by decide +kernel
theorem dX1_workAt_8 : decode cX1_workAt 8 = .ok (.iload_n 1, 1) := by decide +kernel
theorem dX1_workAt_9 : decode cX1_workAt 9 = .ok (.aload_n 0, 1) := by decide +kernel
theorem dX1_workAt_10 : decode cX1_workAt 10 = .ok (.getfield 33, 3) := by decide +kernel
theorem dX1_workAt_13 : decode cX1_workAt 13 = .ok (.if_icmp .ge 7, 3) := by decide +kernel
theorem dX1_workAt_16 : decode cX1_workAt 16 = .ok (.iload_n 1, 1) := by decide +kernel
theorem dX1_workAt_17 : decode cX1_workAt 17 = .ok (.goto 5, 3) := by decide +kernel
theorem dX1_workAt_20 : decode cX1_workAt 20 = .ok (.bipush 30, 2) := by decide +kernel
theorem dX1_workAt_22 : decode cX1_workAt 22 = .ok (.aaload, 1) := by decide +kernel
theorem dX1_workAt_23 : decode cX1_workAt 23 = .ok (.areturn, 1) := by decide +kernel
theorem dX1_societyAt_0 : decode cX1_societyAt 0 = .ok (.aload_n 0, 1) := by decide +kernel
theorem dX1_societyAt_1 : decode cX1_societyAt 1 = .ok (.getfield 38, 3) := by decide +kernel
theorem dX1_societyAt_4 : decode cX1_societyAt 4 = .ok (.iload_n 1, 1) := by decide +kernel
theorem dX1_societyAt_5 : decode cX1_societyAt 5 = .ok (.ifCond .lt 15, 3) := by decide +kernel
theorem dX1_societyAt_8 : decode cX1_societyAt 8 = .ok (.iload_n 1, 1) := by decide +kernel
theorem dX1_societyAt_9 : decode cX1_societyAt 9 = .ok (.aload_n 0, 1) := by decide +kernel
theorem dX1_societyAt_10 : decode cX1_societyAt 10 = .ok (.getfield 42, 3) := by decide +kernel
theorem dX1_societyAt_13 : decode cX1_societyAt 13 = .ok (.if_icmp .ge 7, 3) := by decide +kernel
theorem dX1_societyAt_16 : decode cX1_societyAt 16 = .ok (.iload_n 1, 1) := by decide +kernel
theorem dX1_societyAt_17 : decode cX1_societyAt 17 = .ok (.goto 4, 3) := by decide +kernel
theorem dX1_societyAt_20 : decode cX1_societyAt 20 = .ok (.iconst 5, 1) := by decide +kernel
theorem dX1_societyAt_21 : decode cX1_societyAt 21 = .ok (.aaload, 1) := by decide +kernel
theorem dX1_societyAt_22 : decode cX1_societyAt 22 = .ok (.areturn, 1) := by decide +kernel
theorem dX1_rateAt_0 : decode cX1_rateAt 0 = .ok (.aload_n 0, 1) := by decide +kernel
theorem dX1_rateAt_1 : decode cX1_rateAt 1 = .ok (.getfield 47, 3) := by decide +kernel
theorem dX1_rateAt_4 : decode cX1_rateAt 4 = .ok (.iload_n 1, 1) := by decide +kernel
theorem dX1_rateAt_5 : decode cX1_rateAt 5 = .ok (.ifCond .lt 15, 3) := by decide +kernel
theorem dX1_rateAt_8 : decode cX1_rateAt 8 = .ok (.iload_n 1, 1) := by decide +kernel
theorem dX1_rateAt_9 : decode cX1_rateAt 9 = .ok (.aload_n 0, 1) := by decide +kernel
theorem dX1_rateAt_10 : decode cX1_rateAt 10 = .ok (.getfield 51, 3) := by decide +kernel
theorem dX1_rateAt_13 : decode cX1_rateAt 13 = .ok (.if_icmp .ge 7, 3) := by decide +kernel
theorem dX1_rateAt_16 : decode cX1_rateAt 16 = .ok (.iload_n 1, 1) := by decide +kernel
theorem dX1_rateAt_17 : decode cX1_rateAt 17 = .ok (.goto 5, 3) := by decide +kernel
theorem dX1_rateAt_20 : decode cX1_rateAt 20 = .ok (.bipush 60, 2) := by decide +kernel
theorem dX1_rateAt_22 : decode cX1_rateAt 22 = .ok (.aaload, 1) := by decide +kernel
theorem dX1_rateAt_23 : decode cX1_rateAt 23 = .ok (.areturn, 1) := by decide +kernel
theorem dX1_factAt_0 : decode cX1_factAt 0 = .ok (.aload_n 0, 1) := by decide +kernel
theorem dX1_factAt_1 : decode cX1_factAt 1 = .ok (.getfield 56, 3) := by decide +kernel
theorem dX1_factAt_4 : decode cX1_factAt 4 = .ok (.iload_n 1, 1) := by decide +kernel
theorem dX1_factAt_5 : decode cX1_factAt 5 = .ok (.ifCond .lt 15, 3) := by decide +kernel
theorem dX1_factAt_8 : decode cX1_factAt 8 = .ok (.iload_n 1, 1) := by decide +kernel
theorem dX1_factAt_9 : decode cX1_factAt 9 = .ok (.aload_n 0, 1) := by decide +kernel
theorem dX1_factAt_10 : decode cX1_factAt 10 = .ok (.getfield 60, 3) := by decide +kernel
theorem dX1_factAt_13 : decode cX1_factAt 13 = .ok (.if_icmp .ge 7, 3) := by decide +kernel
theorem dX1_factAt_16 : decode cX1_factAt 16 = .ok (.iload_n 1, 1) := by decide +kernel
theorem dX1_factAt_17 : decode cX1_factAt 17 = .ok (.goto 6, 3) := by decide +kernel
theorem dX1_factAt_20 : decode cX1_factAt 20 = .ok (.sipush 200, 3) := by decide +kernel
theorem dX1_factAt_23 : decode cX1_factAt 23 = .ok (.aaload, 1) := by decide +kernel
theorem dX1_factAt_24 : decode cX1_factAt 24 = .ok (.areturn, 1) := by decide +kernel
theorem dX1_claimAt_0 : decode cX1_claimAt 0 = .ok (.aload_n 0, 1) := by decide +kernel
theorem dX1_claimAt_1 : decode cX1_claimAt 1 = .ok (.getfield 63, 3) := by decide +kernel
theorem dX1_claimAt_4 : decode cX1_claimAt 4 = .ok (.iload_n 1, 1) := by decide +kernel
theorem dX1_claimAt_5 : decode cX1_claimAt 5 = .ok (.ifCond .lt 15, 3) := by decide +kernel
theorem dX1_claimAt_8 : decode cX1_claimAt 8 = .ok (.iload_n 1, 1) := by decide +kernel
theorem dX1_claimAt_9 : decode cX1_claimAt 9 = .ok (.aload_n 0, 1) := by decide +kernel
theorem dX1_claimAt_10 : decode cX1_claimAt 10 = .ok (.getfield 66, 3) := by decide +kernel
theorem dX1_claimAt_13 : decode cX1_claimAt 13 = .ok (.if_icmp .ge 7, 3) := by decide +kernel
theorem dX1_claimAt_16 : decode cX1_claimAt 16 = .ok (.iload_n 1, 1) := by decide +kernel
theorem dX1_claimAt_17 : decode cX1_claimAt 17 = .ok (.goto 6, 3) := by decide +kernel
theorem dX1_claimAt_20 : decode cX1_claimAt 20 = .ok (.sipush 200, 3) := by decide +kernel
theorem dX1_claimAt_23 : decode cX1_claimAt 23 = .ok (.aaload, 1) := by decide +kernel
theorem dX1_claimAt_24 : decode cX1_claimAt 24 = .ok (.areturn, 1) := by decide +kernel
theorem dX1_lawAt_0 : decode cX1_lawAt 0 = .ok (.aload_n 0, 1) := by decide +kernel
theorem dX1_lawAt_1 : decode cX1_lawAt 1 = .ok (.getfield 71, 3) := by decide +kernel
theorem dX1_lawAt_4 : decode cX1_lawAt 4 = .ok (.iload_n 1, 1) := by decide +kernel
theorem dX1_lawAt_5 : decode cX1_lawAt 5 = .ok (.ifCond .lt 15, 3) := by decide +kernel
theorem dX1_lawAt_8 : decode cX1_lawAt 8 = .ok (.iload_n 1, 1) := by decide +kernel
theorem dX1_lawAt_9 : decode cX1_lawAt 9 = .ok (.aload_n 0, 1) := by decide +kernel
theorem dX1_lawAt_10 : decode cX1_lawAt 10 = .ok (.getfield 75, 3) := by decide +kernel
theorem dX1_lawAt_13 : decode cX1_lawAt 13 = .ok (.if_icmp .ge 7, 3) := by decide +kernel
theorem dX1_lawAt_16 : decode cX1_lawAt 16 = .ok (.iload_n 1, 1) := by decide +kernel
theorem dX1_lawAt_17 : decode cX1_lawAt 17 = .ok (.goto 5, 3) := by decide +kernel
theorem dX1_lawAt_20 : decode cX1_lawAt 20 = .ok (.bipush 12, 2) := by decide +kernel
theorem dX1_lawAt_22 : decode cX1_lawAt 22 = .ok (.aaload, 1) := by decide +kernel
theorem dX1_lawAt_23 : decode cX1_lawAt 23 = .ok (.areturn, 1) := by decide +kernel
theorem dX1_hasAllFacts_0 : decode cX1_hasAllFacts 0 = .ok (.aload_n 0, 1) := by decide +kernel
theorem dX1_hasAllFacts_1 : decode cX1_hasAllFacts 1 = .ok (.getfield 60, 3) := by decide +kernel
theorem dX1_hasAllFacts_4 : decode cX1_hasAllFacts 4 = .ok (.sipush 200, 3) := by decide +kernel
theorem dX1_hasAllFacts_7 : decode cX1_hasAllFacts 7 = .ok (.if_icmp .lt 7, 3) := by decide +kernel
theorem dX1_hasAllFacts_10 : decode cX1_hasAllFacts 10 = .ok (.iconst 1, 1) := by decide +kernel
theorem dX1_hasAllFacts_11 : decode cX1_hasAllFacts 11 = .ok (.goto 4, 3) := by decide +kernel
theorem dX1_hasAllFacts_14 : decode cX1_hasAllFacts 14 = .ok (.iconst 0, 1) := by decide +kernel
theorem dX1_hasAllFacts_15 : decode cX1_hasAllFacts 15 = .ok (.ireturn, 1) := by decide +kernel
theorem dX1_addFact_0 : decode cX1_addFact 0 = .ok (.aload_n 0, 1) := by decide +kernel
theorem dX1_addFact_1 : decode cX1_addFact 1 = .ok (.invokevirtual 93, 3) := by decide +kernel
theorem dX1_addFact_4 : decode cX1_addFact 4 = .ok (.ifCond .eq 5, 3) := by decide +kernel
theorem dX1_addFact_7 : decode cX1_addFact 7 = .ok (.iconst (-1), 1) := by decide +kernel
theorem dX1_addFact_8 : decode cX1_addFact 8 = .ok (.ireturn, 1) := by decide +kernel
theorem dX1_addFact_9 : decode cX1_addFact 9 = .ok (.aload_n 0, 1) := by decide +kernel
theorem dX1_addFact_10 : decode cX1_addFact 10 = .ok (.getfield 56, 3) := by decide +kernel
theorem dX1_addFact_13 : decode cX1_addFact 13 = .ok (.aload_n 0, 1) := by decide +kernel
theorem dX1_addFact_14 : decode cX1_addFact 14 = .ok (.getfield 60, 3) := by decide +kernel
theorem dX1_addFact_17 : decode cX1_addFact 17 = .ok (.aload_n 1, 1) := by decide +kernel
theorem dX1_addFact_18 : decode cX1_addFact 18 = .ok (.aastore, 1) := by decide +kernel
theorem dX1_addFact_19 : decode cX1_addFact 19 = .ok (.aload_n 0, 1) := by decide +kernel
theorem dX1_addFact_20 : decode cX1_addFact 20 = .ok (.dup, 1) := by decide +kernel
theorem dX1_addFact_21 : decode cX1_addFact 21 = .ok (.getfield 60, 3) := by decide +kernel
theorem dX1_addFact_24 : decode cX1_addFact 24 = .ok (.iconst 1, 1) := by decide +kernel
theorem dX1_addFact_25 : decode cX1_addFact 25 = .ok (.iadd, 1) := by decide +kernel
theorem dX1_addFact_26 : decode cX1_addFact 26 = .ok (.putfield 60, 3) := by decide +kernel
theorem dX1_addFact_29 : decode cX1_addFact 29 = .ok (.aload_n 0, 1) := by decide +kernel
theorem dX1_addFact_30 : decode cX1_addFact 30 = .ok (.getfield 60, 3) := by decide +kernel
theorem dX1_addFact_33 : decode cX1_addFact 33 = .ok (.iconst 1, 1) := by decide +kernel
theorem dX1_addFact_34 : decode cX1_addFact 34 = .ok (.isub, 1) := by decide +kernel
theorem dX1_addFact_35 : decode cX1_addFact 35 = .ok (.ireturn, 1) := by decide +kernel
theorem dX1_wasEverSold_0 : decode cX1_wasEverSold 0 = .ok (.iconst 0, 1) := by decide +kernel
theorem dX1_wasEverSold_1 : decode cX1_wasEverSold 1 = .ok (.istore_n 2, 1) := by decide +kernel
theorem dX1_wasEverSold_2 : decode cX1_wasEverSold 2 = .ok (.iload_n 2, 1) := by decide +kernel
theorem dX1_wasEverSold_3 : decode cX1_wasEverSold 3 = .ok (.aload_n 0, 1) := by decide +kernel
theorem dX1_wasEverSold_4 : decode cX1_wasEverSold 4 = .ok (.getfield 60, 3) := by decide +kernel
theorem dX1_wasEverSold_7 : decode cX1_wasEverSold 7 = .ok (.if_icmp .ge 35, 3) := by decide +kernel
theorem dX1_wasEverSold_10 : decode cX1_wasEverSold 10 = .ok (.aload_n 0, 1) := by decide +kernel
theorem dX1_wasEverSold_11 : decode cX1_wasEverSold 11 = .ok (.iload_n 2, 1) := by decide +kernel
theorem dX1_wasEverSold_12 : decode cX1_wasEverSold 12 = .ok (.invokevirtual 97, 3) := by decide +kernel
theorem dX1_wasEverSold_15 : decode cX1_wasEverSold 15 = .ok (.getfield 101, 3) := by decide +kernel
theorem dX1_wasEverSold_18 : decode cX1_wasEverSold 18 = .ok (.iconst 2, 1) := by decide +kernel
theorem dX1_wasEverSold_19 : decode cX1_wasEverSold 19 = .ok (.if_icmp .ne 17, 3) := by decide +kernel
theorem dX1_wasEverSold_22 : decode cX1_wasEverSold 22 = .ok (.aload_n 0, 1) := by decide +kernel
theorem dX1_wasEverSold_23 : decode cX1_wasEverSold 23 = .ok (.iload_n 2, 1) := by decide +kernel
theorem dX1_wasEverSold_24 : decode cX1_wasEverSold 24 = .ok (.invokevirtual 97, 3) := by decide +kernel
theorem dX1_wasEverSold_27 : decode cX1_wasEverSold 27 = .ok (.getfield 104, 3) := by decide +kernel
theorem dX1_wasEverSold_30 : decode cX1_wasEverSold 30 = .ok (.iload_n 1, 1) := by decide +kernel
theorem dX1_wasEverSold_31 : decode cX1_wasEverSold 31 = .ok (.if_icmp .ne 5, 3) := by decide +kernel
theorem dX1_wasEverSold_34 : decode cX1_wasEverSold 34 = .ok (.iconst 1, 1) := by decide +kernel
theorem dX1_wasEverSold_35 : decode cX1_wasEverSold 35 = .ok (.ireturn, 1) := by decide +kernel
theorem dX1_wasEverSold_36 : decode cX1_wasEverSold 36 = .ok (.iinc 2 1, 3) := by decide +kernel
theorem dX1_wasEverSold_39 : decode cX1_wasEverSold 39 = .ok (.goto (-37), 3) := by decide +kernel
theorem dX1_wasEverSold_42 : decode cX1_wasEverSold 42 = .ok (.iconst 0, 1) := by decide +kernel
theorem dX1_wasEverSold_43 : decode cX1_wasEverSold 43 = .ok (.ireturn, 1) := by decide +kernel
theorem dX1_inheritedOf_0 : decode cX1_inheritedOf 0 = .ok (.iconst 0, 1) := by decide +kernel
theorem dX1_inheritedOf_1 : decode cX1_inheritedOf 1 = .ok (.istore_n 2, 1) := by decide +kernel
theorem dX1_inheritedOf_2 : decode cX1_inheritedOf 2 = .ok (.iconst 0, 1) := by decide +kernel
theorem dX1_inheritedOf_3 : decode cX1_inheritedOf 3 = .ok (.istore_n 3, 1) := by decide +kernel
theorem dX1_inheritedOf_4 : decode cX1_inheritedOf 4 = .ok (.iload_n 3, 1) := by decide +kernel
theorem dX1_inheritedOf_5 : decode cX1_inheritedOf 5 = .ok (.aload_n 0, 1) := by decide +kernel
theorem dX1_inheritedOf_6 : decode cX1_inheritedOf 6 = .ok (.getfield 60, 3) := by decide +kernel
theorem dX1_inheritedOf_9 : decode cX1_inheritedOf 9 = .ok (.if_icmp .ge 62, 3) := by decide +kernel
theorem dX1_inheritedOf_12 : decode cX1_inheritedOf 12 = .ok (.aload_n 0, 1) := by decide +kernel
theorem dX1_inheritedOf_13 : decode cX1_inheritedOf 13 = .ok (.iload_n 3, 1) := by decide +kernel
theorem dX1_inheritedOf_14 : decode cX1_inheritedOf 14 = .ok (.invokevirtual 97, 3) := by decide +kernel
theorem dX1_inheritedOf_17 : decode cX1_inheritedOf 17 = .ok (.astore 4, 2) := by decide +kernel
theorem dX1_inheritedOf_19 : decode cX1_inheritedOf 19 = .ok (.aload 4, 2) := by decide +kernel
theorem dX1_inheritedOf_21 : decode cX1_inheritedOf 21 = .ok (.getfield 101, 3) := by decide +kernel
theorem dX1_inheritedOf_24 : decode cX1_inheritedOf 24 = .ok (.iconst 1, 1) := by decide +kernel
theorem dX1_inheritedOf_25 : decode cX1_inheritedOf 25 = .ok (.if_icmp .ne 40, 3) := by decide +kernel
theorem dX1_inheritedOf_28 : decode cX1_inheritedOf 28 = .ok (.aload 4, 2) := by decide +kernel
theorem dX1_inheritedOf_30 : decode cX1_inheritedOf 30 = .ok (.getfield 107, 3) := by decide +kernel
theorem dX1_inheritedOf_33 : decode cX1_inheritedOf 33 = .ok (.iload_n 1, 1) := by decide +kernel
theorem dX1_inheritedOf_34 : decode cX1_inheritedOf 34 = .ok (.if_icmp .ne 31, 3) := by decide +kernel
theorem dX1_inheritedOf_37 : decode cX1_inheritedOf 37 = .ok (.aload 4, 2) := by decide +kernel
theorem dX1_inheritedOf_39 : decode cX1_inheritedOf 39 = .ok (.aload_n 0, 1) := by decide +kernel
theorem dX1_inheritedOf_40 : decode cX1_inheritedOf 40 = .ok (.getfield 9, 3) := by decide +kernel
theorem dX1_inheritedOf_43 : decode cX1_inheritedOf 43 = .ok (.invokevirtual 110, 3) := by decide +kernel
theorem dX1_inheritedOf_46 : decode cX1_inheritedOf 46 = .ok (.ifCond .eq 19, 3) := by decide +kernel
theorem dX1_inheritedOf_49 : decode cX1_inheritedOf 49 = .ok (.iload_n 2, 1) := by decide +kernel
theorem dX1_inheritedOf_50 : decode cX1_inheritedOf 50 = .ok (.aload 4, 2) := by decide +kernel
theorem dX1_inheritedOf_52 : decode cX1_inheritedOf 52 = .ok (.getfield 114, 3) := by decide +kernel
theorem dX1_inheritedOf_55 : decode cX1_inheritedOf 55 = .ok (.aload 4, 2) := by decide +kernel
theorem dX1_inheritedOf_57 : decode cX1_inheritedOf 57 = .ok (.getfield 117, 3) := by decide +kernel
theorem dX1_inheritedOf_60 : decode cX1_inheritedOf 60 = .ok (.invokestatic 120, 3) := by decide +kernel
theorem dX1_inheritedOf_63 : decode cX1_inheritedOf 63 = .ok (.iadd, 1) := by decide +kernel
theorem dX1_inheritedOf_64 : decode cX1_inheritedOf 64 = .ok (.istore_n 2, 1) := by decide +kernel
theorem dX1_inheritedOf_65 : decode cX1_inheritedOf 65 = .ok (.iinc 3 1, 3) := by decide +kernel
theorem dX1_inheritedOf_68 : decode cX1_inheritedOf 68 = .ok (.goto (-64), 3) := by decide +kernel
theorem dX1_inheritedOf_71 : decode cX1_inheritedOf 71 = .ok (.iload_n 2, 1) := by decide +kernel
theorem dX1_inheritedOf_72 : decode cX1_inheritedOf 72 = .ok (.ireturn, 1) := by decide +kernel
theorem dX1_claimOf_0 : decode cX1_claimOf 0 = .ok (.iconst 0, 1) := by decide +kernel
theorem dX1_claimOf_1 : decode cX1_claimOf 1 = .ok (.istore_n 3, 1) := by decide +kernel
theorem dX1_claimOf_2 : decode cX1_claimOf 2 = .ok (.iload_n 3, 1) := by decide +kernel
theorem dX1_claimOf_3 : decode cX1_claimOf 3 = .ok (.aload_n 0, 1) := by decide +kernel
theorem dX1_claimOf_4 : decode cX1_claimOf 4 = .ok (.getfield 66, 3) := by decide +kernel
theorem dX1_claimOf_7 : decode cX1_claimOf 7 = .ok (.if_icmp .ge 35, 3) := by decide +kernel
theorem dX1_claimOf_10 : decode cX1_claimOf 10 = .ok (.aload_n 0, 1) := by decide +kernel
theorem dX1_claimOf_11 : decode cX1_claimOf 11 = .ok (.iload_n 3, 1) := by decide +kernel
theorem dX1_claimOf_12 : decode cX1_claimOf 12 = .ok (.invokevirtual 124, 3) := by decide +kernel
theorem dX1_claimOf_15 : decode cX1_claimOf 15 = .ok (.getfield 107, 3) := by decide +kernel
theorem dX1_claimOf_18 : decode cX1_claimOf 18 = .ok (.iload_n 1, 1) := by decide +kernel
theorem dX1_claimOf_19 : decode cX1_claimOf 19 = .ok (.if_icmp .ne 17, 3) := by decide +kernel
theorem dX1_claimOf_22 : decode cX1_claimOf 22 = .ok (.aload_n 0, 1) := by decide +kernel
theorem dX1_claimOf_23 : decode cX1_claimOf 23 = .ok (.iload_n 3, 1) := by decide +kernel
theorem dX1_claimOf_24 : decode cX1_claimOf 24 = .ok (.invokevirtual 124, 3) := by decide +kernel
theorem dX1_claimOf_27 : decode cX1_claimOf 27 = .ok (.getfield 104, 3) := by decide +kernel
theorem dX1_claimOf_30 : decode cX1_claimOf 30 = .ok (.iload_n 2, 1) := by decide +kernel
theorem dX1_claimOf_31 : decode cX1_claimOf 31 = .ok (.if_icmp .ne 5, 3) := by decide +kernel
theorem dX1_claimOf_34 : decode cX1_claimOf 34 = .ok (.iload_n 3, 1) := by decide +kernel
theorem dX1_claimOf_35 : decode cX1_claimOf 35 = .ok (.ireturn, 1) := by decide +kernel
theorem dX1_claimOf_36 : decode cX1_claimOf 36 = .ok (.iinc 3 1, 3) := by decide +kernel
theorem dX1_claimOf_39 : decode cX1_claimOf 39 = .ok (.goto (-37), 3) := by decide +kernel
theorem dX1_claimOf_42 : decode cX1_claimOf 42 = .ok (.iconst (-1), 1) := by decide +kernel
theorem dX1_claimOf_43 : decode cX1_claimOf 43 = .ok (.ireturn, 1) := by decide +kernel
theorem dX1_rateFor_0 : decode cX1_rateFor 0 = .ok (.iconst (-1), 1) := by decide +kernel
theorem dX1_rateFor_1 : decode cX1_rateFor 1 = .ok (.istore_n 3, 1) := by decide +kernel
theorem dX1_rateFor_2 : decode cX1_rateFor 2 = .ok (.iconst 0, 1) := by decide +kernel
theorem dX1_rateFor_3 : decode cX1_rateFor 3 = .ok (.istore 4, 2) := by decide +kernel
theorem dX1_rateFor_5 : decode cX1_rateFor 5 = .ok (.iload 4, 2) := by decide +kernel
theorem dX1_rateFor_7 : decode cX1_rateFor 7 = .ok (.aload_n 0, 1) := by decide +kernel
theorem dX1_rateFor_8 : decode cX1_rateFor 8 = .ok (.getfield 51, 3) := by decide +kernel
theorem dX1_rateFor_11 : decode cX1_rateFor 11 = .ok (.if_icmp .ge 54, 3) := by decide +kernel
theorem dX1_rateFor_14 : decode cX1_rateFor 14 = .ok (.aload_n 0, 1) := by decide +kernel
theorem dX1_rateFor_15 : decode cX1_rateFor 15 = .ok (.iload 4, 2) := by decide +kernel
theorem dX1_rateFor_17 : decode cX1_rateFor 17 = .ok (.invokevirtual 127, 3) := by decide +kernel
theorem dX1_rateFor_20 : decode cX1_rateFor 20 = .ok (.astore 5, 2) := by decide +kernel
theorem dX1_rateFor_22 : decode cX1_rateFor 22 = .ok (.aload 5, 2) := by decide +kernel
theorem dX1_rateFor_24 : decode cX1_rateFor 24 = .ok (.getfield 131, 3) := by decide +kernel
theorem dX1_rateFor_27 : decode cX1_rateFor 27 = .ok (.iload_n 1, 1) := by decide +kernel
theorem dX1_rateFor_28 : decode cX1_rateFor 28 = .ok (.if_icmp .ne 31, 3) := by decide +kernel
theorem dX1_rateFor_31 : decode cX1_rateFor 31 = .ok (.aload 5, 2) := by decide +kernel
theorem dX1_rateFor_33 : decode cX1_rateFor 33 = .ok (.getfield 134, 3) := by decide +kernel
theorem dX1_rateFor_36 : decode cX1_rateFor 36 = .ok (.iload_n 2, 1) := by decide +kernel
theorem dX1_rateFor_37 : decode cX1_rateFor 37 = .ok (.if_icmp .gt 22, 3) := by decide +kernel
theorem dX1_rateFor_40 : decode cX1_rateFor 40 = .ok (.aload 5, 2) := by decide +kernel
theorem dX1_rateFor_42 : decode cX1_rateFor 42 = .ok (.getfield 134, 3) := by decide +kernel
theorem dX1_rateFor_45 : decode cX1_rateFor 45 = .ok (.aload_n 0, 1) := by decide +kernel
theorem dX1_rateFor_46 : decode cX1_rateFor 46 = .ok (.iload_n 3, 1) := by decide +kernel
theorem dX1_rateFor_47 : decode cX1_rateFor 47 = .ok (.invokevirtual 127, 3) := by decide +kernel
theorem dX1_rateFor_50 : decode cX1_rateFor 50 = .ok (.getfield 134, 3) := by decide +kernel
theorem dX1_rateFor_53 : decode cX1_rateFor 53 = .ok (.if_icmp .lt 6, 3) := by decide +kernel
theorem dX1_rateFor_56 : decode cX1_rateFor 56 = .ok (.iload 4, 2) := by decide +kernel
theorem dX1_rateFor_58 : decode cX1_rateFor 58 = .ok (.istore_n 3, 1) := by decide +kernel
theorem dX1_rateFor_59 : decode cX1_rateFor 59 = .ok (.iinc 4 1, 3) := by decide +kernel
theorem dX1_rateFor_62 : decode cX1_rateFor 62 = .ok (.goto (-57), 3) := by decide +kernel
theorem dX1_rateFor_65 : decode cX1_rateFor 65 = .ok (.aload_n 0, 1) := by decide +kernel
theorem dX1_rateFor_66 : decode cX1_rateFor 66 = .ok (.iload_n 3, 1) := by decide +kernel
theorem dX1_rateFor_67 : decode cX1_rateFor 67 = .ok (.invokevirtual 127, 3) := by decide +kernel
theorem dX1_rateFor_70 : decode cX1_rateFor 70 = .ok (.getfield 137, 3) := by decide +kernel
theorem dX1_rateFor_73 : decode cX1_rateFor 73 = .ok (.ireturn, 1) := by decide +kernel
theorem dX1_lawFor_0 : decode cX1_lawFor 0 = .ok (.iconst (-1), 1) := by decide +kernel
theorem dX1_lawFor_1 : decode cX1_lawFor 1 = .ok (.istore 4, 2) := by decide +kernel
theorem dX1_lawFor_3 : decode cX1_lawFor 3 = .ok (.iconst 0, 1) := by decide +kernel
theorem dX1_lawFor_4 : decode cX1_lawFor 4 = .ok (.istore 5, 2) := by decide +kernel
theorem dX1_lawFor_6 : decode cX1_lawFor 6 = .ok (.iload 5, 2) := by decide +kernel
theorem dX1_lawFor_8 : decode cX1_lawFor 8 = .ok (.aload_n 0, 1) := by decide +kernel
theorem dX1_lawFor_9 : decode cX1_lawFor 9 = .ok (.getfield 75, 3) := by decide +kernel
theorem dX1_lawFor_12 : decode cX1_lawFor 12 = .ok (.if_icmp .ge 77, 3) := by decide +kernel
theorem dX1_lawFor_15 : decode cX1_lawFor 15 = .ok (.aload_n 0, 1) := by decide +kernel
theorem dX1_lawFor_16 : decode cX1_lawFor 16 = .ok (.iload 5, 2) := by decide +kernel
theorem dX1_lawFor_18 : decode cX1_lawFor 18 = .ok (.invokevirtual 140, 3) := by decide +kernel
theorem dX1_lawFor_21 : decode cX1_lawFor 21 = .ok (.astore 6, 2) := by decide +kernel
theorem dX1_lawFor_23 : decode cX1_lawFor 23 = .ok (.aload 6, 2) := by decide +kernel
theorem dX1_lawFor_25 : decode cX1_lawFor 25 = .ok (.getfield 144, 3) := by decide +kernel
theorem dX1_lawFor_28 : decode cX1_lawFor 28 = .ok (.iload_n 1, 1) := by decide +kernel
theorem dX1_lawFor_29 : decode cX1_lawFor 29 = .ok (.if_icmp .ne 25, 3) := by decide +kernel
theorem dX1_lawFor_32 : decode cX1_lawFor 32 = .ok (.aload 6, 2) := by decide +kernel
theorem dX1_lawFor_34 : decode cX1_lawFor 34 = .ok (.getfield 145, 3) := by decide +kernel
theorem dX1_lawFor_37 : decode cX1_lawFor 37 = .ok (.iload_n 2, 1) := by decide +kernel
theorem dX1_lawFor_38 : decode cX1_lawFor 38 = .ok (.if_icmp .gt 16, 3) := by decide +kernel
theorem dX1_lawFor_41 : decode cX1_lawFor 41 = .ok (.aload 6, 2) := by decide +kernel
theorem dX1_lawFor_43 : decode cX1_lawFor 43 = .ok (.iload_n 3, 1) := by decide +kernel
theorem dX1_lawFor_44 : decode cX1_lawFor 44 = .ok (.invokevirtual 146, 3) := by decide +kernel
theorem dX1_lawFor_47 : decode cX1_lawFor 47 = .ok (.ifCond .eq 7, 3) := by decide +kernel
theorem dX1_lawFor_50 : decode cX1_lawFor 50 = .ok (.iconst 1, 1) := by decide +kernel
theorem dX1_lawFor_51 : decode cX1_lawFor 51 = .ok (.goto 4, 3) := by decide +kernel
theorem dX1_lawFor_54 : decode cX1_lawFor 54 = .ok (.iconst 0, 1) := by decide +kernel
theorem dX1_lawFor_55 : decode cX1_lawFor 55 = .ok (.istore 7, 2) := by decide +kernel
theorem dX1_lawFor_57 : decode cX1_lawFor 57 = .ok (.iload 7, 2) := by decide +kernel
theorem dX1_lawFor_59 : decode cX1_lawFor 59 = .ok (.ifCond .eq 24, 3) := by decide +kernel
theorem dX1_lawFor_62 : decode cX1_lawFor 62 = .ok (.aload 6, 2) := by decide +kernel
theorem dX1_lawFor_64 : decode cX1_lawFor 64 = .ok (.getfield 145, 3) := by decide +kernel
theorem dX1_lawFor_67 : decode cX1_lawFor 67 = .ok (.aload_n 0, 1) := by decide +kernel
theorem dX1_lawFor_68 : decode cX1_lawFor 68 = .ok (.iload 4, 2) := by decide +kernel
theorem dX1_lawFor_70 : decode cX1_lawFor 70 = .ok (.invokevirtual 140, 3) := by decide +kernel
theorem dX1_lawFor_73 : decode cX1_lawFor 73 = .ok (.getfield 145, 3) := by decide +kernel
theorem dX1_lawFor_76 : decode cX1_lawFor 76 = .ok (.if_icmp .lt 7, 3) := by decide +kernel
theorem dX1_lawFor_79 : decode cX1_lawFor 79 = .ok (.iload 5, 2) := by decide +kernel
theorem dX1_lawFor_81 : decode cX1_lawFor 81 = .ok (.istore 4, 2) := by decide +kernel
theorem dX1_lawFor_83 : decode cX1_lawFor 83 = .ok (.iinc 5 1, 3) := by decide +kernel
theorem dX1_lawFor_86 : decode cX1_lawFor 86 = .ok (.goto (-80), 3) := by decide +kernel
theorem dX1_lawFor_89 : decode cX1_lawFor 89 = .ok (.iload 4, 2) := by decide +kernel
theorem dX1_lawFor_91 : decode cX1_lawFor 91 = .ok (.ireturn, 1) := by decide +kernel
theorem dX1_collectorIn_0 : decode cX1_collectorIn 0 = .ok (.iconst 0, 1) := by decide +kernel
theorem dX1_collectorIn_1 : decode cX1_collectorIn 1 = .ok (.istore_n 2, 1) := by decide +kernel
theorem dX1_collectorIn_2 : decode cX1_collectorIn 2 = .ok (.iload_n 2, 1) := by decide +kernel
theorem dX1_collectorIn_3 : decode cX1_collectorIn 3 = .ok (.aload_n 0, 1) := by decide +kernel
theorem dX1_collectorIn_4 : decode cX1_collectorIn 4 = .ok (.getfield 42, 3) := by decide +kernel
theorem dX1_collectorIn_7 : decode cX1_collectorIn 7 = .ok (.if_icmp .ge 23, 3) := by decide +kernel
theorem dX1_collectorIn_10 : decode cX1_collectorIn 10 = .ok (.aload_n 0, 1) := by decide +kernel
theorem dX1_collectorIn_11 : decode cX1_collectorIn 11 = .ok (.iload_n 2, 1) := by decide +kernel
theorem dX1_collectorIn_12 : decode cX1_collectorIn 12 = .ok (.invokevirtual 147, 3) := by decide +kernel
theorem dX1_collectorIn_15 : decode cX1_collectorIn 15 = .ok (.getfield 151, 3) := by decide +kernel
theorem dX1_collectorIn_18 : decode cX1_collectorIn 18 = .ok (.iload_n 1, 1) := by decide +kernel
theorem dX1_collectorIn_19 : decode cX1_collectorIn 19 = .ok (.if_icmp .ne 5, 3) := by decide +kernel
theorem dX1_collectorIn_22 : decode cX1_collectorIn 22 = .ok (.iload_n 2, 1) := by decide +kernel
theorem dX1_collectorIn_23 : decode cX1_collectorIn 23 = .ok (.ireturn, 1) := by decide +kernel
theorem dX1_collectorIn_24 : decode cX1_collectorIn 24 = .ok (.iinc 2 1, 3) := by decide +kernel
theorem dX1_collectorIn_27 : decode cX1_collectorIn 27 = .ok (.goto (-25), 3) := by decide +kernel
theorem dX1_collectorIn_30 : decode cX1_collectorIn 30 = .ok (.iconst (-1), 1) := by decide +kernel
theorem dX1_collectorIn_31 : decode cX1_collectorIn 31 = .ok (.ireturn, 1) := by decide +kernel
theorem dX1_mandateOf_0 : decode cX1_mandateOf 0 = .ok (.iconst (-1), 1) := by decide +kernel
theorem dX1_mandateOf_1 : decode cX1_mandateOf 1 = .ok (.istore 4, 2) := by decide +kernel
theorem dX1_mandateOf_3 : decode cX1_mandateOf 3 = .ok (.iconst 0, 1) := by decide +kernel
theorem dX1_mandateOf_4 : decode cX1_mandateOf 4 = .ok (.istore 5, 2) := by decide +kernel
theorem dX1_mandateOf_6 : decode cX1_mandateOf 6 = .ok (.iload 5, 2) := by decide +kernel
theorem dX1_mandateOf_8 : decode cX1_mandateOf 8 = .ok (.aload_n 0, 1) := by decide +kernel
theorem dX1_mandateOf_9 : decode cX1_mandateOf 9 = .ok (.getfield 60, 3) := by decide +kernel
theorem dX1_mandateOf_12 : decode cX1_mandateOf 12 = .ok (.if_icmp .ge 72, 3) := by decide +kernel
theorem dX1_mandateOf_15 : decode cX1_mandateOf 15 = .ok (.aload_n 0, 1) := by decide +kernel
theorem dX1_mandateOf_16 : decode cX1_mandateOf 16 = .ok (.iload 5, 2) := by decide +kernel
theorem dX1_mandateOf_18 : decode cX1_mandateOf 18 = .ok (.invokevirtual 97, 3) := by decide +kernel
theorem dX1_mandateOf_21 : decode cX1_mandateOf 21 = .ok (.astore 6, 2) := by decide +kernel
theorem dX1_mandateOf_23 : decode cX1_mandateOf 23 = .ok (.aload 6, 2) := by decide +kernel
theorem dX1_mandateOf_25 : decode cX1_mandateOf 25 = .ok (.getfield 101, 3) := by decide +kernel
theorem dX1_mandateOf_28 : decode cX1_mandateOf 28 = .ok (.iconst 5, 1) := by decide +kernel
theorem dX1_mandateOf_29 : decode cX1_mandateOf 29 = .ok (.if_icmp .ne 25, 3) := by decide +kernel
theorem dX1_mandateOf_32 : decode cX1_mandateOf 32 = .ok (.aload 6, 2) := by decide +kernel
theorem dX1_mandateOf_34 : decode cX1_mandateOf 34 = .ok (.getfield 107, 3) := by decide +kernel
theorem dX1_mandateOf_37 : decode cX1_mandateOf 37 = .ok (.iload_n 1, 1) := by decide +kernel
theorem dX1_mandateOf_38 : decode cX1_mandateOf 38 = .ok (.if_icmp .ne 16, 3) := by decide +kernel
theorem dX1_mandateOf_41 : decode cX1_mandateOf 41 = .ok (.aload 6, 2) := by decide +kernel
theorem dX1_mandateOf_43 : decode cX1_mandateOf 43 = .ok (.getfield 152, 3) := by decide +kernel
theorem dX1_mandateOf_46 : decode cX1_mandateOf 46 = .ok (.iload_n 2, 1) := by decide +kernel
theorem dX1_mandateOf_47 : decode cX1_mandateOf 47 = .ok (.if_icmp .gt 7, 3) := by decide +kernel
theorem dX1_mandateOf_50 : decode cX1_mandateOf 50 = .ok (.iconst 1, 1) := by decide +kernel
theorem dX1_mandateOf_51 : decode cX1_mandateOf 51 = .ok (.goto 4, 3) := by decide +kernel
theorem dX1_mandateOf_54 : decode cX1_mandateOf 54 = .ok (.iconst 0, 1) := by decide +kernel
theorem dX1_mandateOf_55 : decode cX1_mandateOf 55 = .ok (.istore 7, 2) := by decide +kernel
theorem dX1_mandateOf_57 : decode cX1_mandateOf 57 = .ok (.iload 7, 2) := by decide +kernel
theorem dX1_mandateOf_59 : decode cX1_mandateOf 59 = .ok (.ifCond .eq 19, 3) := by decide +kernel
theorem dX1_mandateOf_62 : decode cX1_mandateOf 62 = .ok (.aload 6, 2) := by decide +kernel
theorem dX1_mandateOf_64 : decode cX1_mandateOf 64 = .ok (.iload_n 3, 1) := by decide +kernel
theorem dX1_mandateOf_65 : decode cX1_mandateOf 65 = .ok (.invokevirtual 110, 3) := by decide +kernel
theorem dX1_mandateOf_68 : decode cX1_mandateOf 68 = .ok (.ifCond .eq 10, 3) := by decide +kernel
theorem dX1_mandateOf_71 : decode cX1_mandateOf 71 = .ok (.aload 6, 2) := by decide +kernel
theorem dX1_mandateOf_73 : decode cX1_mandateOf 73 = .ok (.getfield 155, 3) := by decide +kernel
theorem dX1_mandateOf_76 : decode cX1_mandateOf 76 = .ok (.istore 4, 2) := by decide +kernel
theorem dX1_mandateOf_78 : decode cX1_mandateOf 78 = .ok (.iinc 5 1, 3) := by decide +kernel
theorem dX1_mandateOf_81 : decode cX1_mandateOf 81 = .ok (.goto (-75), 3) := by decide +kernel
theorem dX1_mandateOf_84 : decode cX1_mandateOf 84 = .ok (.iload 4, 2) := by decide +kernel
theorem dX1_mandateOf_86 : decode cX1_mandateOf 86 = .ok (.ireturn, 1) := by decide +kernel
theorem dX1_handBehind_0 : decode cX1_handBehind 0 = .ok (.aload_n 0, 1) := by decide +kernel
theorem dX1_handBehind_1 : decode cX1_handBehind 1 = .ok (.iload_n 2, 1) := by decide +kernel
theorem dX1_handBehind_2 : decode cX1_handBehind 2 = .ok (.invokevirtual 97, 3) := by decide +kernel
theorem dX1_handBehind_5 : decode cX1_handBehind 5 = .ok (.getfield 152, 3) := by decide +kernel
theorem dX1_handBehind_8 : decode cX1_handBehind 8 = .ok (.istore 4, 2) := by decide +kernel
theorem dX1_handBehind_10 : decode cX1_handBehind 10 = .ok (.iconst (-1), 1) := by decide +kernel
theorem dX1_handBehind_11 : decode cX1_handBehind 11 = .ok (.istore 5, 2) := by decide +kernel
theorem dX1_handBehind_13 : decode cX1_handBehind 13 = .ok (.iconst 0, 1) := by decide +kernel
theorem dX1_handBehind_14 : decode cX1_handBehind 14 = .ok (.istore 6, 2) := by decide +kernel
theorem dX1_handBehind_16 : decode cX1_handBehind 16 = .ok (.iload 6, 2) := by decide +kernel
theorem dX1_handBehind_18 : decode cX1_handBehind 18 = .ok (.aload_n 0, 1) := by decide +kernel
theorem dX1_handBehind_19 : decode cX1_handBehind 19 = .ok (.getfield 60, 3) := by decide +kernel
theorem dX1_handBehind_22 : decode cX1_handBehind 22 = .ok (.if_icmp .ge 112, 3) := by decide +kernel
theorem dX1_handBehind_25 : decode cX1_handBehind 25 = .ok (.aload_n 0, 1) := by decide +kernel
theorem dX1_handBehind_26 : decode cX1_handBehind 26 = .ok (.iload 6, 2) := by decide +kernel
theorem dX1_handBehind_28 : decode cX1_handBehind 28 = .ok (.invokevirtual 97, 3) := by decide +kernel
theorem dX1_handBehind_31 : decode cX1_handBehind 31 = .ok (.astore 7, 2) := by decide +kernel
theorem dX1_handBehind_33 : decode cX1_handBehind 33 = .ok (.aload 7, 2) := by decide +kernel
theorem dX1_handBehind_35 : decode cX1_handBehind 35 = .ok (.getfield 152, 3) := by decide +kernel
theorem dX1_handBehind_38 : decode cX1_handBehind 38 = .ok (.iload 4, 2) := by decide +kernel
theorem dX1_handBehind_40 : decode cX1_handBehind 40 = .ok (.if_icmp .gt 19, 3) := by decide +kernel
theorem dX1_handBehind_43 : decode cX1_handBehind 43 = .ok (.aload 7, 2) := by decide +kernel
theorem dX1_handBehind_45 : decode cX1_handBehind 45 = .ok (.getfield 152, 3) := by decide +kernel
theorem dX1_handBehind_48 : decode cX1_handBehind 48 = .ok (.iload 4, 2) := by decide +kernel
theorem dX1_handBehind_50 : decode cX1_handBehind 50 = .ok (.if_icmp .ne 13, 3) := by decide +kernel
theorem dX1_handBehind_53 : decode cX1_handBehind 53 = .ok (.iload 6, 2) := by decide +kernel
theorem dX1_handBehind_55 : decode cX1_handBehind 55 = .ok (.iload_n 2, 1) := by decide +kernel
theorem dX1_handBehind_56 : decode cX1_handBehind 56 = .ok (.if_icmp .le 7, 3) := by decide +kernel
theorem dX1_handBehind_59 : decode cX1_handBehind 59 = .ok (.iconst 1, 1) := by decide +kernel
theorem dX1_handBehind_60 : decode cX1_handBehind 60 = .ok (.goto 4, 3) := by decide +kernel
theorem dX1_handBehind_63 : decode cX1_handBehind 63 = .ok (.iconst 0, 1) := by decide +kernel
theorem dX1_handBehind_64 : decode cX1_handBehind 64 = .ok (.istore 8, 2) := by decide +kernel
theorem dX1_handBehind_66 : decode cX1_handBehind 66 = .ok (.iload 5, 2) := by decide +kernel
theorem dX1_handBehind_68 : decode cX1_handBehind 68 = .ok (.iconst (-1), 1) := by decide +kernel
theorem dX1_handBehind_69 : decode cX1_handBehind 69 = .ok (.if_icmp .eq 20, 3) := by decide +kernel
theorem dX1_handBehind_72 : decode cX1_handBehind 72 = .ok (.aload 7, 2) := by decide +kernel
theorem dX1_handBehind_74 : decode cX1_handBehind 74 = .ok (.getfield 152, 3) := by decide +kernel
theorem dX1_handBehind_77 : decode cX1_handBehind 77 = .ok (.aload_n 0, 1) := by decide +kernel
theorem dX1_handBehind_78 : decode cX1_handBehind 78 = .ok (.iload 5, 2) := by decide +kernel
theorem dX1_handBehind_80 : decode cX1_handBehind 80 = .ok (.invokevirtual 97, 3) := by decide +kernel
theorem dX1_handBehind_83 : decode cX1_handBehind 83 = .ok (.getfield 152, 3) := by decide +kernel
theorem dX1_handBehind_86 : decode cX1_handBehind 86 = .ok (.if_icmp .ge 7, 3) := by decide +kernel
theorem dX1_handBehind_89 : decode cX1_handBehind 89 = .ok (.iconst 1, 1) := by decide +kernel
theorem dX1_handBehind_90 : decode cX1_handBehind 90 = .ok (.goto 4, 3) := by decide +kernel
theorem dX1_handBehind_93 : decode cX1_handBehind 93 = .ok (.iconst 0, 1) := by decide +kernel
theorem dX1_handBehind_94 : decode cX1_handBehind 94 = .ok (.istore 9, 2) := by decide +kernel
theorem dX1_handBehind_96 : decode cX1_handBehind 96 = .ok (.iload 8, 2) := by decide +kernel
theorem dX1_handBehind_98 : decode cX1_handBehind 98 = .ok (.ifCond .eq 30, 3) := by decide +kernel
theorem dX1_handBehind_101 : decode cX1_handBehind 101 = .ok (.iload 9, 2) := by decide +kernel
theorem dX1_handBehind_103 : decode cX1_handBehind 103 = .ok (.ifCond .eq 25, 3) := by decide +kernel
theorem dX1_handBehind_106 : decode cX1_handBehind 106 = .ok (.aload 7, 2) := by decide +kernel
theorem dX1_handBehind_108 : decode cX1_handBehind 108 = .ok (.iload_n 1, 1) := by decide +kernel
theorem dX1_handBehind_109 : decode cX1_handBehind 109 = .ok (.invokevirtual 158, 3) := by decide +kernel
theorem dX1_handBehind_112 : decode cX1_handBehind 112 = .ok (.ifCond .eq 16, 3) := by decide +kernel
theorem dX1_handBehind_115 : decode cX1_handBehind 115 = .ok (.aload 7, 2) := by decide +kernel
theorem dX1_handBehind_117 : decode cX1_handBehind 117 = .ok (.iload_n 3, 1) := by decide +kernel
theorem dX1_handBehind_118 : decode cX1_handBehind 118 = .ok (.invokevirtual 110, 3) := by decide +kernel
theorem dX1_handBehind_121 : decode cX1_handBehind 121 = .ok (.ifCond .eq 7, 3) := by decide +kernel
theorem dX1_handBehind_124 : decode cX1_handBehind 124 = .ok (.iload 6, 2) := by decide +kernel
theorem dX1_handBehind_126 : decode cX1_handBehind 126 = .ok (.istore 5, 2) := by decide +kernel
theorem dX1_handBehind_128 : decode cX1_handBehind 128 = .ok (.iinc 6 1, 3) := by decide +kernel
theorem dX1_handBehind_131 : decode cX1_handBehind 131 = .ok (.goto (-115), 3) := by decide +kernel
theorem dX1_handBehind_134 : decode cX1_handBehind 134 = .ok (.iload 5, 2) := by decide +kernel
theorem dX1_handBehind_136 : decode cX1_handBehind 136 = .ok (.ireturn, 1) := by decide +kernel
theorem dX2_init_0 : decode cX2_init 0 = .ok (.aload_n 0, 1) := by decide +kernel
theorem dX2_init_1 : decode cX2_init 1 = .ok (.invokespecial 3, 3) := by decide +kernel
theorem dX2_init_4 : decode cX2_init 4 = .ok (.aload_n 0, 1) := by decide +kernel
theorem dX2_init_5 : decode cX2_init 5 = .ok (.bipush 25, 2) := by decide +kernel
theorem dX2_init_7 : decode cX2_init 7 = .ok (.newarray .long, 2) := by decide +kernel
theorem dX2_init_9 : decode cX2_init 9 = .ok (.putfield 9, 3) := by decide +kernel
theorem dX2_init_12 : decode cX2_init 12 = .ok (.aload_n 0, 1) := by decide +kernel
theorem dX2_init_13 : decode cX2_init 13 = .ok (.bipush 32, 2) := by decide +kernel
theorem dX2_init_15 : decode cX2_init 15 = .ok (.newarray .long, 2) := by decide +kernel
theorem dX2_init_17 : decode cX2_init 17 = .ok (.putfield 15, 3) := by decide +kernel
theorem dX2_init_20 : decode cX2_init 20 = .ok (.aload_n 0, 1) := by decide +kernel
theorem dX2_init_21 : decode cX2_init 21 = .ok (.bipush 32, 2) := by decide +kernel
theorem dX2_init_23 : decode cX2_init 23 = .ok (.newarray .int, 2) := by decide +kernel
theorem dX2_init_25 : decode cX2_init 25 = .ok (.putfield 18, 3) := by decide +kernel
theorem dX2_init_28 : decode cX2_init 28 = .ok (.aload_n 0, 1) := by decide +kernel
theorem dX2_init_29 : decode cX2_init 29 = .ok (.aload_n 1, 1) := by decide +kernel
theorem dX2_init_30 : decode cX2_init 30 = .ok (.putfield 22, 3) := by decide +kernel
theorem dX2_init_33 : decode cX2_init 33 = .ok (.aload_n 0, 1) := by decide +kernel
theorem dX2_init_34 : decode cX2_init 34 = .ok (.aload_n 2, 1) := by decide +kernel
theorem dX2_init_35 : decode cX2_init 35 = .ok (.putfield 26, 3) := by decide +kernel
theorem dX2_init_38 : decode cX2_init 38 = .ok (.return_, 1) := by decide +kernel
theorem dX2_clear_0 : decode cX2_clear 0 = .ok (.iconst 0, 1) := by decide +kernel
theorem dX2_clear_1 : decode cX2_clear 1 = .ok (.istore_n 3, 1) := by decide +kernel
theorem dX2_clear_2 : decode cX2_clear 2 = .ok (.iload_n 3, 1) := by decide +kernel
theorem dX2_clear_3 : decode cX2_clear 3 = .ok (.aload_n 0, 1) := by decide +kernel
theorem dX2_clear_4 : decode cX2_clear 4 = .ok (.getfield 9, 3) := by decide +kernel
theorem dX2_clear_7 : decode cX2_clear 7 = .ok (.arraylength, 1) := by decide +kernel
theorem dX2_clear_8 : decode cX2_clear 8 = .ok (.if_icmp .ge 16, 3) := by decide +kernel
theorem dX2_clear_11 : decode cX2_clear 11 = .ok (.aload_n 0, 1) := by decide +kernel
theorem dX2_clear_12 : decode cX2_clear 12 = .ok (.getfield 9, 3) := by decide +kernel
theorem dX2_clear_15 : decode cX2_clear 15 = .ok (.iload_n 3, 1) := by decide +kernel
theorem dX2_clear_16 : decode cX2_clear 16 = .ok (.lconst 0, 1) := by decide +kernel
theorem dX2_clear_17 : decode cX2_clear 17 = .ok (.lastore, 1) := by decide +kernel
theorem dX2_clear_18 : decode cX2_clear 18 = .ok (.iinc 3 1, 3) := by decide +kernel
theorem dX2_clear_21 : decode cX2_clear 21 = .ok (.goto (-19), 3) := by decide +kernel
theorem dX2_clear_24 : decode cX2_clear 24 = .ok (.aload_n 0, 1) := by decide +kernel
theorem dX2_clear_25 : decode cX2_clear 25 = .ok (.getfield 26, 3) := by decide +kernel
theorem dX2_clear_28 : decode cX2_clear 28 = .ok (.iload_n 2, 1) := by decide +kernel
theorem dX2_clear_29 : decode cX2_clear 29 = .ok (.invokevirtual 30, 3) := by decide +kernel
theorem dX2_clear_32 : decode cX2_clear 32 = .ok (.iconst 0, 1) := by decide +kernel
theorem dX2_clear_33 : decode cX2_clear 33 = .ok (.istore_n 3, 1) := by decide +kernel
theorem dX2_clear_34 : decode cX2_clear 34 = .ok (.iload_n 3, 1) := by decide +kernel
theorem dX2_clear_35 : decode cX2_clear 35 = .ok (.aload_n 0, 1) := by decide +kernel
theorem dX2_clear_36 : decode cX2_clear 36 = .ok (.getfield 22, 3) := by decide +kernel
theorem dX2_clear_39 : decode cX2_clear 39 = .ok (.getfield 36, 3) := by decide +kernel
theorem dX2_clear_42 : decode cX2_clear 42 = .ok (.if_icmp .ge 73, 3) := by decide +kernel
theorem dX2_clear_45 : decode cX2_clear 45 = .ok (.aload_n 0, 1) := by decide +kernel
theorem dX2_clear_46 : decode cX2_clear 46 = .ok (.getfield 22, 3) := by decide +kernel
theorem dX2_clear_49 : decode cX2_clear 49 = .ok (.iload_n 3, 1) := by decide +kernel
theorem dX2_clear_50 : decode cX2_clear 50 = .ok (.invokevirtual 42, 3) := by decide +kernel
theorem dX2_clear_53 : decode cX2_clear 53 = .ok (.astore 4, 2) := by decide +kernel
theorem dX2_clear_55 : decode cX2_clear 55 = .ok (.aload_n 0, 1) := by decide +kernel
theorem dX2_clear_56 : decode cX2_clear 56 = .ok (.getfield 22, 3) := by decide +kernel
theorem dX2_clear_59 : decode cX2_clear 59 = .ok (.aload 4, 2) := by decide +kernel
theorem dX2_clear_61 : decode cX2_clear 61 = .ok (.getfield 46, 3) := by decide +kernel
theorem dX2_clear_64 : decode cX2_clear 64 = .ok (.invokevirtual 51, 3) := by decide +kernel
theorem dX2_clear_67 : decode cX2_clear 67 = .ok (.istore 5, 2) := by decide +kernel
theorem dX2_clear_69 : decode cX2_clear 69 = .ok (.iload 5, 2) := by decide +kernel
theorem dX2_clear_71 : decode cX2_clear 71 = .ok (.iconst (-1), 1) := by decide +kernel
theorem dX2_clear_72 : decode cX2_clear 72 = .ok (.if_icmp .eq 37, 3) := by decide +kernel
theorem dX2_clear_75 : decode cX2_clear 75 = .ok (.aload 4, 2) := by decide +kernel
theorem dX2_clear_77 : decode cX2_clear 77 = .ok (.iload_n 1, 1) := by decide +kernel
theorem dX2_clear_78 : decode cX2_clear 78 = .ok (.invokevirtual 55, 3) := by decide +kernel
theorem dX2_clear_81 : decode cX2_clear 81 = .ok (.ifCond .eq 28, 3) := by decide +kernel
theorem dX2_clear_84 : decode cX2_clear 84 = .ok (.aload 4, 2) := by decide +kernel
theorem dX2_clear_86 : decode cX2_clear 86 = .ok (.iload_n 2, 1) := by decide +kernel
theorem dX2_clear_87 : decode cX2_clear 87 = .ok (.invokevirtual 59, 3) := by decide +kernel
theorem dX2_clear_90 : decode cX2_clear 90 = .ok (.ifCond .eq 19, 3) := by decide +kernel
theorem dX2_clear_93 : decode cX2_clear 93 = .ok (.aload_n 0, 1) := by decide +kernel
theorem dX2_clear_94 : decode cX2_clear 94 = .ok (.getfield 26, 3) := by decide +kernel
theorem dX2_clear_97 : decode cX2_clear 97 = .ok (.aload 4, 2) := by decide +kernel
theorem dX2_clear_99 : decode cX2_clear 99 = .ok (.iload_n 3, 1) := by decide +kernel
theorem dX2_clear_100 : decode cX2_clear 100 = .ok (.invokevirtual 62, 3) := by decide +kernel
theorem dX2_clear_103 : decode cX2_clear 103 = .ok (.aload_n 0, 1) := by decide +kernel
theorem dX2_clear_104 : decode cX2_clear 104 = .ok (.iload 5, 2) := by decide +kernel
theorem dX2_clear_106 : decode cX2_clear 106 = .ok (.invokevirtual 66, 3) := by decide +kernel
theorem dX2_clear_109 : decode cX2_clear 109 = .ok (.iinc 3 1, 3) := by decide +kernel
theorem dX2_clear_112 : decode cX2_clear 112 = .ok (.goto (-78), 3) := by decide +kernel
theorem dX2_clear_115 : decode cX2_clear 115 = .ok (.return_, 1) := by decide +kernel
theorem dX2_addOwed_0 : decode cX2_addOwed 0 = .ok (.iconst 0, 1) := by decide +kernel
theorem dX2_addOwed_1 : decode cX2_addOwed 1 = .ok (.istore_n 2, 1) := by decide +kernel
theorem dX2_addOwed_2 : decode cX2_addOwed 2 = .ok (.iload_n 2, 1) := by decide +kernel
theorem dX2_addOwed_3 : decode cX2_addOwed 3 = .ok (.bipush 30, 2) := by decide +kernel
theorem dX2_addOwed_5 : decode cX2_addOwed 5 = .ok (.if_icmp .ge 60, 3) := by decide +kernel
theorem dX2_addOwed_8 : decode cX2_addOwed 8 = .ok (.iload_n 1, 1) := by decide +kernel
theorem dX2_addOwed_9 : decode cX2_addOwed 9 = .ok (.aload_n 0, 1) := by decide +kernel
theorem dX2_addOwed_10 : decode cX2_addOwed 10 = .ok (.getfield 26, 3) := by decide +kernel
theorem dX2_addOwed_13 : decode cX2_addOwed 13 = .ok (.getfield 69, 3) := by decide +kernel
theorem dX2_addOwed_16 : decode cX2_addOwed 16 = .ok (.iload_n 2, 1) := by decide +kernel
theorem dX2_addOwed_17 : decode cX2_addOwed 17 = .ok (.iaload, 1) := by decide +kernel
theorem dX2_addOwed_18 : decode cX2_addOwed 18 = .ok (.invokestatic 72, 3) := by decide +kernel
theorem dX2_addOwed_21 : decode cX2_addOwed 21 = .ok (.istore_n 3, 1) := by decide +kernel
theorem dX2_addOwed_22 : decode cX2_addOwed 22 = .ok (.iload_n 3, 1) := by decide +kernel
theorem dX2_addOwed_23 : decode cX2_addOwed 23 = .ok (.iconst (-1), 1) := by decide +kernel
theorem dX2_addOwed_24 : decode cX2_addOwed 24 = .ok (.if_icmp .eq 35, 3) := by decide +kernel
theorem dX2_addOwed_27 : decode cX2_addOwed 27 = .ok (.aload_n 0, 1) := by decide +kernel
theorem dX2_addOwed_28 : decode cX2_addOwed 28 = .ok (.getfield 26, 3) := by decide +kernel
theorem dX2_addOwed_31 : decode cX2_addOwed 31 = .ok (.getfield 69, 3) := by decide +kernel
theorem dX2_addOwed_34 : decode cX2_addOwed 34 = .ok (.iload_n 2, 1) := by decide +kernel
theorem dX2_addOwed_35 : decode cX2_addOwed 35 = .ok (.iaload, 1) := by decide +kernel
theorem dX2_addOwed_36 : decode cX2_addOwed 36 = .ok (.iload_n 1, 1) := by decide +kernel
theorem dX2_addOwed_37 : decode cX2_addOwed 37 = .ok (.if_icmp .eq 22, 3) := by decide +kernel
theorem dX2_addOwed_40 : decode cX2_addOwed 40 = .ok (.aload_n 0, 1) := by decide +kernel
theorem dX2_addOwed_41 : decode cX2_addOwed 41 = .ok (.getfield 9, 3) := by decide +kernel
theorem dX2_addOwed_44 : decode cX2_addOwed 44 = .ok (.iload_n 3, 1) := by decide +kernel
theorem dX2_addOwed_45 : decode cX2_addOwed 45 = .ok (.dup2, 1) := by decide +kernel
theorem dX2_addOwed_46 : decode cX2_addOwed 46 = .ok (.laload, 1) := by decide +kernel
theorem dX2_addOwed_47 : decode cX2_addOwed 47 = .ok (.aload_n 0, 1) := by decide +kernel
theorem dX2_addOwed_48 : decode cX2_addOwed 48 = .ok (.getfield 26, 3) := by decide +kernel
theorem dX2_addOwed_51 : decode cX2_addOwed 51 = .ok (.getfield 76, 3) := by decide +kernel
theorem dX2_addOwed_54 : decode cX2_addOwed 54 = .ok (.iload_n 2, 1) := by decide +kernel
theorem dX2_addOwed_55 : decode cX2_addOwed 55 = .ok (.iaload, 1) := by decide +kernel
theorem dX2_addOwed_56 : decode cX2_addOwed 56 = .ok (.i2l, 1) := by decide +kernel
theorem dX2_addOwed_57 : decode cX2_addOwed 57 = .ok (.ladd, 1) := by decide +kernel
theorem dX2_addOwed_58 : decode cX2_addOwed 58 = .ok (.lastore, 1) := by decide +kernel
theorem dX2_addOwed_59 : decode cX2_addOwed 59 = .ok (.iinc 2 1, 3) := by decide +kernel
theorem dX2_addOwed_62 : decode cX2_addOwed 62 = .ok (.goto (-60), 3) := by decide +kernel
theorem dX2_addOwed_65 : decode cX2_addOwed 65 = .ok (.return_, 1) := by decide +kernel
theorem dX2_owed_0 : decode cX2_owed 0 = .ok (.iload_n 1, 1) := by decide +kernel
theorem dX2_owed_1 : decode cX2_owed 1 = .ok (.iload_n 2, 1) := by decide +kernel
theorem dX2_owed_2 : decode cX2_owed 2 = .ok (.invokestatic 72, 3) := by decide +kernel
theorem dX2_owed_5 : decode cX2_owed 5 = .ok (.istore_n 3, 1) := by decide +kernel
theorem dX2_owed_6 : decode cX2_owed 6 = .ok (.iload_n 3, 1) := by decide +kernel
theorem dX2_owed_7 : decode cX2_owed 7 = .ok (.iconst (-1), 1) := by decide +kernel
theorem dX2_owed_8 : decode cX2_owed 8 = .ok (.if_icmp .ne 7, 3) := by decide +kernel
theorem dX2_owed_11 : decode cX2_owed 11 = .ok (.lconst 0, 1) := by decide +kernel
theorem dX2_owed_12 : decode cX2_owed 12 = .ok (.goto 9, 3) := by decide +kernel
theorem dX2_owed_15 : decode cX2_owed 15 = .ok (.aload_n 0, 1) := by decide +kernel
theorem dX2_owed_16 : decode cX2_owed 16 = .ok (.getfield 9, 3) := by decide +kernel
theorem dX2_owed_19 : decode cX2_owed 19 = .ok (.iload_n 3, 1) := by decide +kernel
theorem dX2_owed_20 : decode cX2_owed 20 = .ok (.laload, 1) := by decide +kernel
theorem dX2_owed_21 : decode cX2_owed 21 = .ok (.lreturn, 1) := by decide +kernel
theorem dX2_pairOf_0 : decode cX2_pairOf 0 = .ok (.iload_n 0, 1) := by decide +kernel
theorem dX2_pairOf_1 : decode cX2_pairOf 1 = .ok (.iconst 0, 1) := by decide +kernel
theorem dX2_pairOf_2 : decode cX2_pairOf 2 = .ok (.iconst 4, 1) := by decide +kernel
theorem dX2_pairOf_3 : decode cX2_pairOf 3 = .ok (.invokestatic 79, 3) := by decide +kernel
theorem dX2_pairOf_6 : decode cX2_pairOf 6 = .ok (.ifCond .eq 16, 3) := by decide +kernel
theorem dX2_pairOf_9 : decode cX2_pairOf 9 = .ok (.iload_n 1, 1) := by decide +kernel
theorem dX2_pairOf_10 : decode cX2_pairOf 10 = .ok (.iconst 0, 1) := by decide +kernel
theorem dX2_pairOf_11 : decode cX2_pairOf 11 = .ok (.iconst 4, 1) := by decide +kernel
theorem dX2_pairOf_12 : decode cX2_pairOf 12 = .ok (.invokestatic 79, 3) := by decide +kernel
theorem dX2_pairOf_15 : decode cX2_pairOf 15 = .ok (.ifCond .eq 7, 3) := by decide +kernel
theorem dX2_pairOf_18 : decode cX2_pairOf 18 = .ok (.iconst 1, 1) := by decide +kernel
theorem dX2_pairOf_19 : decode cX2_pairOf 19 = .ok (.goto 4, 3) := by decide +kernel
theorem dX2_pairOf_22 : decode cX2_pairOf 22 = .ok (.iconst 0, 1) := by decide +kernel
theorem dX2_pairOf_23 : decode cX2_pairOf 23 = .ok (.istore_n 2, 1) := by decide +kernel
theorem dX2_pairOf_24 : decode cX2_pairOf 24 = .ok (.iload_n 2, 1) := by decide +kernel
theorem dX2_pairOf_25 : decode cX2_pairOf 25 = .ok (.ifCond .eq 11, 3) := by decide +kernel
theorem dX2_pairOf_28 : decode cX2_pairOf 28 = .ok (.iload_n 0, 1) := by decide +kernel
theorem dX2_pairOf_29 : decode cX2_pairOf 29 = .ok (.iconst 5, 1) := by decide +kernel
theorem dX2_pairOf_30 : decode cX2_pairOf 30 = .ok (.imul, 1) := by decide +kernel
theorem dX2_pairOf_31 : decode cX2_pairOf 31 = .ok (.iload_n 1, 1) := by decide +kernel
theorem dX2_pairOf_32 : decode cX2_pairOf 32 = .ok (.iadd, 1) := by decide +kernel
theorem dX2_pairOf_33 : decode cX2_pairOf 33 = .ok (.goto 4, 3) := by decide +kernel
theorem dX2_pairOf_36 : decode cX2_pairOf 36 = .ok (.iconst (-1), 1) := by decide +kernel
theorem dX2_pairOf_37 : decode cX2_pairOf 37 = .ok (.ireturn, 1) := by decide +kernel
theorem dX2_netOf_0 : decode cX2_netOf 0 = .ok (.lconst 0, 1) := by decide +kernel
theorem dX2_netOf_1 : decode cX2_netOf 1 = .ok (.lstore_n 2, 1) := by decide +kernel
theorem dX2_netOf_2 : decode cX2_netOf 2 = .ok (.iconst 0, 1) := by decide +kernel
theorem dX2_netOf_3 : decode cX2_netOf 3 = .ok (.istore 4, 2) := by decide +kernel
theorem dX2_netOf_5 : decode cX2_netOf 5 = .ok (.iload 4, 2) := by decide +kernel
theorem dX2_netOf_7 : decode cX2_netOf 7 = .ok (.iconst 5, 1) := by decide +kernel
theorem dX2_netOf_8 : decode cX2_netOf 8 = .ok (.if_icmp .ge 27, 3) := by decide +kernel
theorem dX2_netOf_11 : decode cX2_netOf 11 = .ok (.lload_n 2, 1) := by decide +kernel
theorem dX2_netOf_12 : decode cX2_netOf 12 = .ok (.aload_n 0, 1) := by decide +kernel
theorem dX2_netOf_13 : decode cX2_netOf 13 = .ok (.iload 4, 2) := by decide +kernel
theorem dX2_netOf_15 : decode cX2_netOf 15 = .ok (.iload_n 1, 1) := by decide +kernel
theorem dX2_netOf_16 : decode cX2_netOf 16 = .ok (.invokevirtual 83, 3) := by decide +kernel
theorem dX2_netOf_19 : decode cX2_netOf 19 = .ok (.aload_n 0, 1) := by decide +kernel
theorem dX2_netOf_20 : decode cX2_netOf 20 = .ok (.iload_n 1, 1) := by decide +kernel
theorem dX2_netOf_21 : decode cX2_netOf 21 = .ok (.iload 4, 2) := by decide +kernel
theorem dX2_netOf_23 : decode cX2_netOf 23 = .ok (.invokevirtual 83, 3) := by decide +kernel
theorem dX2_netOf_26 : decode cX2_netOf 26 = .ok (.lsub, 1) := by decide +kernel
theorem dX2_netOf_27 : decode cX2_netOf 27 = .ok (.ladd, 1) := by decide +kernel
theorem dX2_netOf_28 : decode cX2_netOf 28 = .ok (.lstore_n 2, 1) := by decide +kernel
theorem dX2_netOf_29 : decode cX2_netOf 29 = .ok (.iinc 4 1, 3) := by decide +kernel
theorem dX2_netOf_32 : decode cX2_netOf 32 = .ok (.goto (-27), 3) := by decide +kernel
theorem dX2_netOf_35 : decode cX2_netOf 35 = .ok (.lload_n 2, 1) := by decide +kernel
theorem dX2_netOf_36 : decode cX2_netOf 36 = .ok (.lreturn, 1) := by decide +kernel
theorem dX2_fewestPayments_0 : decode cX2_fewestPayments 0 = .ok (.iconst 1, 1) := by decide +kernel
theorem dX2_fewestPayments_1 : decode cX2_fewestPayments 1 = .ok (.istore_n 1, 1) := by decide +kernel
theorem dX2_fewestPayments_2 : decode cX2_fewestPayments 2 = .ok (.iload_n 1, 1) := by decide +kernel
theorem dX2_fewestPayments_3 : decode cX2_fewestPayments 3 = .ok (.aload_n 0, 1) := by decide +kernel
theorem dX2_fewestPayments_4 : decode cX2_fewestPayments 4 = .ok (.getfield 18, 3) := by decide +kernel
theorem dX2_fewestPayments_7 : decode cX2_fewestPayments 7 = .ok (.arraylength, 1) := by decide +kernel
theorem dX2_fewestPayments_8 : decode cX2_fewestPayments 8 = .ok (.if_icmp .ge 107, 3) := by decide +kernel
theorem dX2_fewestPayments_11 : decode cX2_fewestPayments 11 = .ok (.aload_n 0, 1) := by decide +kernel
theorem dX2_fewestPayments_12 : decode cX2_fewestPayments 12 = .ok (.getfield 15, 3) := by decide +kernel
theorem dX2_fewestPayments_15 : decode cX2_fewestPayments 15 = .ok (.iload_n 1, 1) := by decide +kernel
theorem dX2_fewestPayments_16 : decode cX2_fewestPayments 16 = .ok (.lconst 0, 1) := by decide +kernel
theorem dX2_fewestPayments_17 : decode cX2_fewestPayments 17 = .ok (.lastore, 1) := by decide +kernel
theorem dX2_fewestPayments_18 : decode cX2_fewestPayments 18 = .ok (.aload_n 0, 1) := by decide +kernel
theorem dX2_fewestPayments_19 : decode cX2_fewestPayments 19 = .ok (.getfield 18, 3) := by decide +kernel
theorem dX2_fewestPayments_22 : decode cX2_fewestPayments 22 = .ok (.iload_n 1, 1) := by decide +kernel
theorem dX2_fewestPayments_23 : decode cX2_fewestPayments 23 = .ok (.iconst 0, 1) := by decide +kernel
theorem dX2_fewestPayments_24 : decode cX2_fewestPayments 24 = .ok (.iastore, 1) := by decide +kernel
theorem dX2_fewestPayments_25 : decode cX2_fewestPayments 25 = .ok (.iconst 0, 1) := by decide +kernel
theorem dX2_fewestPayments_26 : decode cX2_fewestPayments 26 = .ok (.istore_n 2, 1) := by decide +kernel
theorem dX2_fewestPayments_27 : decode cX2_fewestPayments 27 = .ok (.iload_n 2, 1) := by decide +kernel
theorem dX2_fewestPayments_28 : decode cX2_fewestPayments 28 = .ok (.iconst 5, 1) := by decide +kernel
theorem dX2_fewestPayments_29 : decode cX2_fewestPayments 29 = .ok (.if_icmp .ge 59, 3) := by decide +kernel
theorem dX2_fewestPayments_32 : decode cX2_fewestPayments 32 = .ok (.iload_n 1, 1) := by decide +kernel
theorem dX2_fewestPayments_33 : decode cX2_fewestPayments 33 = .ok (.iload_n 2, 1) := by decide +kernel
theorem dX2_fewestPayments_34 : decode cX2_fewestPayments 34 = .ok (.ishr, 1) := by decide +kernel
theorem dX2_fewestPayments_35 : decode cX2_fewestPayments 35 = .ok (.iconst 1, 1) := by decide +kernel
theorem dX2_fewestPayments_36 : decode cX2_fewestPayments 36 = .ok (.iand, 1) := by decide +kernel
theorem dX2_fewestPayments_37 : decode cX2_fewestPayments 37 = .ok (.iconst 1, 1) := by decide +kernel
theorem dX2_fewestPayments_38 : decode cX2_fewestPayments 38 = .ok (.if_icmp .ne 44, 3) := by decide +kernel
theorem dX2_fewestPayments_41 : decode cX2_fewestPayments 41 = .ok (.aload_n 0, 1) := by decide +kernel
theorem dX2_fewestPayments_42 : decode cX2_fewestPayments 42 = .ok (.getfield 15, 3) := by decide +kernel
theorem dX2_fewestPayments_45 : decode cX2_fewestPayments 45 = .ok (.iload_n 1, 1) := by decide +kernel
theorem dX2_fewestPayments_46 : decode cX2_fewestPayments 46 = .ok (.dup2, 1) := by decide +kernel
theorem dX2_fewestPayments_47 : decode cX2_fewestPayments 47 = .ok (.laload, 1) := by decide +kernel
theorem dX2_fewestPayments_48 : decode cX2_fewestPayments 48 = .ok (.aload_n 0, 1) := by decide +kernel
theorem dX2_fewestPayments_49 : decode cX2_fewestPayments 49 = .ok (.iload_n 2, 1) := by decide +kernel
theorem dX2_fewestPayments_50 : decode cX2_fewestPayments 50 = .ok (.invokevirtual 86, 3) := by decide +kernel
theorem dX2_fewestPayments_53 : decode cX2_fewestPayments 53 = .ok (.ladd, 1) := by decide +kernel
theorem dX2_fewestPayments_54 : decode cX2_fewestPayments 54 = .ok (.lastore, 1) := by decide +kernel
theorem dX2_fewestPayments_55 : decode cX2_fewestPayments 55 = .ok (.aload_n 0, 1) := by decide +kernel
theorem dX2_fewestPayments_56 : decode cX2_fewestPayments 56 = .ok (.getfield 18, 3) := by decide +kernel
theorem dX2_fewestPayments_59 : decode cX2_fewestPayments 59 = .ok (.iload_n 1, 1) := by decide +kernel
theorem dX2_fewestPayments_60 : decode cX2_fewestPayments 60 = .ok (.aload_n 0, 1) := by decide +kernel
theorem dX2_fewestPayments_61 : decode cX2_fewestPayments 61 = .ok (.getfield 18, 3) := by decide +kernel
theorem dX2_fewestPayments_64 : decode cX2_fewestPayments 64 = .ok (.iload_n 1, 1) := by decide +kernel
theorem dX2_fewestPayments_65 : decode cX2_fewestPayments 65 = .ok (.iaload, 1) := by decide +kernel
theorem dX2_fewestPayments_66 : decode cX2_fewestPayments 66 = .ok (.aload_n 0, 1) := by decide +kernel
theorem dX2_fewestPayments_67 : decode cX2_fewestPayments 67 = .ok (.getfield 18, 3) := by decide +kernel
theorem dX2_fewestPayments_70 : decode cX2_fewestPayments 70 = .ok (.iload_n 1, 1) := by decide +kernel
theorem dX2_fewestPayments_71 : decode cX2_fewestPayments 71 = .ok (.iconst 1, 1) := by decide +kernel
theorem dX2_fewestPayments_72 : decode cX2_fewestPayments 72 = .ok (.iload_n 2, 1) := by decide +kernel
theorem dX2_fewestPayments_73 : decode cX2_fewestPayments 73 = .ok (.ishl, 1) := by decide +kernel
theorem dX2_fewestPayments_74 : decode cX2_fewestPayments 74 = .ok (.iconst (-1), 1) := by decide +kernel
theorem dX2_fewestPayments_75 : decode cX2_fewestPayments 75 = .ok (.ixor, 1) := by decide +kernel
theorem dX2_fewestPayments_76 : decode cX2_fewestPayments 76 = .ok (.iand, 1) := by decide +kernel
theorem dX2_fewestPayments_77 : decode cX2_fewestPayments 77 = .ok (.iaload, 1) := by decide +kernel
theorem dX2_fewestPayments_78 : decode cX2_fewestPayments 78 = .ok (.invokestatic 90, 3) := by decide +kernel
theorem dX2_fewestPayments_81 : decode cX2_fewestPayments 81 = .ok (.iastore, 1) := by decide +kernel
theorem dX2_fewestPayments_82 : decode cX2_fewestPayments 82 = .ok (.iinc 2 1, 3) := by decide +kernel
theorem dX2_fewestPayments_85 : decode cX2_fewestPayments 85 = .ok (.goto (-58), 3) := by decide +kernel
theorem dX2_fewestPayments_88 : decode cX2_fewestPayments 88 = .ok (.aload_n 0, 1) := by decide +kernel
theorem dX2_fewestPayments_89 : decode cX2_fewestPayments 89 = .ok (.getfield 15, 3) := by decide +kernel
theorem dX2_fewestPayments_92 : decode cX2_fewestPayments 92 = .ok (.iload_n 1, 1) := by decide +kernel
theorem dX2_fewestPayments_93 : decode cX2_fewestPayments 93 = .ok (.laload, 1) := by decide +kernel
theorem dX2_fewestPayments_94 : decode cX2_fewestPayments 94 = .ok (.lconst 0, 1) := by decide +kernel
theorem dX2_fewestPayments_95 : decode cX2_fewestPayments 95 = .ok (.lcmp, 1) := by decide +kernel
theorem dX2_fewestPayments_96 : decode cX2_fewestPayments 96 = .ok (.ifCond .ne 13, 3) := by decide +kernel
theorem dX2_fewestPayments_99 : decode cX2_fewestPayments 99 = .ok (.aload_n 0, 1) := by decide +kernel
theorem dX2_fewestPayments_100 : decode cX2_fewestPayments 100 = .ok (.getfield 18, 3) := by decide +kernel
theorem dX2_fewestPayments_103 : decode cX2_fewestPayments 103 = .ok (.iload_n 1, 1) := by decide +kernel
theorem dX2_fewestPayments_104 : decode cX2_fewestPayments 104 = .ok (.dup2, 1) := by decide +kernel
theorem dX2_fewestPayments_105 : decode cX2_fewestPayments 105 = .ok (.iaload, 1) := by decide +kernel
theorem dX2_fewestPayments_106 : decode cX2_fewestPayments 106 = .ok (.iconst 1, 1) := by decide +kernel
theorem dX2_fewestPayments_107 : decode cX2_fewestPayments 107 = .ok (.iadd, 1) := by decide +kernel
theorem dX2_fewestPayments_108 : decode cX2_fewestPayments 108 = .ok (.iastore, 1) := by decide +kernel
theorem dX2_fewestPayments_109 : decode cX2_fewestPayments 109 = .ok (.iinc 1 1, 3) := by decide +kernel
theorem dX2_fewestPayments_112 : decode cX2_fewestPayments 112 = .ok (.goto (-110), 3) := by decide +kernel
theorem dX2_fewestPayments_115 : decode cX2_fewestPayments 115 = .ok (.iconst 5, 1) := by decide +kernel
theorem dX2_fewestPayments_116 : decode cX2_fewestPayments 116 = .ok (.aload_n 0, 1) := by decide +kernel
theorem dX2_fewestPayments_117 : decode cX2_fewestPayments 117 = .ok (.getfield 18, 3) := by decide +kernel
theorem dX2_fewestPayments_120 : decode cX2_fewestPayments 120 = .ok (.aload_n 0, 1) := by decide +kernel
theorem dX2_fewestPayments_121 : decode cX2_fewestPayments 121 = .ok (.getfield 18, 3) := by decide +kernel
theorem dX2_fewestPayments_124 : decode cX2_fewestPayments 124 = .ok (.arraylength, 1) := by decide +kernel
theorem dX2_fewestPayments_125 : decode cX2_fewestPayments 125 = .ok (.iconst 1, 1) := by decide +kernel
theorem dX2_fewestPayments_126 : decode cX2_fewestPayments 126 = .ok (.isub, 1) := by decide +kernel
theorem dX2_fewestPayments_127 : decode cX2_fewestPayments 127 = .ok (.iaload, 1) := by decide +kernel
theorem dX2_fewestPayments_128 : decode cX2_fewestPayments 128 = .ok (.isub, 1) := by decide +kernel
theorem dX2_fewestPayments_129 : decode cX2_fewestPayments 129 = .ok (.ireturn, 1) := by decide +kernel
theorem dX3_init_0 : decode cX3_init 0 = .ok (.aload_n 0, 1) := by decide +kernel
theorem dX3_init_1 : decode cX3_init 1 = .ok (.invokespecial 3, 3) := by decide +kernel
theorem dX3_init_4 : decode cX3_init 4 = .ok (.aload_n 0, 1) := by decide +kernel
theorem dX3_init_5 : decode cX3_init 5 = .ok (.iconst (-1), 1) := by decide +kernel
theorem dX3_init_6 : decode cX3_init 6 = .ok (.putfield 9, 3) := by decide +kernel
theorem dX3_init_9 : decode cX3_init 9 = .ok (.aload_n 0, 1) := by decide +kernel
theorem dX3_init_10 : decode cX3_init 10 = .ok (.iconst 0, 1) := by decide +kernel
theorem dX3_init_11 : decode cX3_init 11 = .ok (.putfield 15, 3) := by decide +kernel
theorem dX3_init_14 : decode cX3_init 14 = .ok (.aload_n 0, 1) := by decide +kernel
theorem dX3_init_15 : decode cX3_init 15 = .ok (.iconst 1, 1) := by decide +kernel
theorem dX3_init_16 : decode cX3_init 16 = .ok (.putfield 18, 3) := by decide +kernel
theorem dX3_init_19 : decode cX3_init 19 = .ok (.aload_n 0, 1) := by decide +kernel
theorem dX3_init_20 : decode cX3_init 20 = .ok (.iconst (-1), 1) := by decide +kernel
theorem dX3_init_21 : decode cX3_init 21 = .ok (.putfield 21, 3) := by decide +kernel
theorem dX3_init_24 : decode cX3_init 24 = .ok (.aload_n 0, 1) := by decide +kernel
theorem dX3_init_25 : decode cX3_init 25 = .ok (.iconst 0, 1) := by decide +kernel
theorem dX3_init_26 : decode cX3_init 26 = .ok (.putfield 24, 3) := by decide +kernel
theorem dX3_init_29 : decode cX3_init 29 = .ok (.aload_n 0, 1) := by decide +kernel
theorem dX3_init_30 : decode cX3_init 30 = .ok (.iconst 0, 1) := by decide +kernel
theorem dX3_init_31 : decode cX3_init 31 = .ok (.putfield 27, 3) := by decide +kernel
theorem dX3_init_34 : decode cX3_init 34 = .ok (.aload_n 0, 1) := by decide +kernel
theorem dX3_init_35 : decode cX3_init 35 = .ok (.iload_n 1, 1) := by decide +kernel
theorem dX3_init_36 : decode cX3_init 36 = .ok (.putfield 30, 3) := by decide +kernel
theorem dX3_init_39 : decode cX3_init 39 = .ok (.aload_n 0, 1) := by decide +kernel
theorem dX3_init_40 : decode cX3_init 40 = .ok (.iload_n 2, 1) := by decide +kernel
theorem dX3_init_41 : decode cX3_init 41 = .ok (.putfield 33, 3) := by decide +kernel
theorem dX3_init_44 : decode cX3_init 44 = .ok (.aload_n 0, 1) := by decide +kernel
theorem dX3_init_45 : decode cX3_init 45 = .ok (.iload_n 3, 1) := by decide +kernel
theorem dX3_init_46 : decode cX3_init 46 = .ok (.putfield 36, 3) := by decide +kernel
theorem dX3_init_49 : decode cX3_init 49 = .ok (.aload_n 0, 1) := by decide +kernel
theorem dX3_init_50 : decode cX3_init 50 = .ok (.iload 4, 2) := by decide +kernel
theorem dX3_init_52 : decode cX3_init 52 = .ok (.putfield 39, 3) := by decide +kernel
theorem dX3_init_55 : decode cX3_init 55 = .ok (.aload_n 0, 1) := by decide +kernel
theorem dX3_init_56 : decode cX3_init 56 = .ok (.iload 5, 2) := by decide +kernel
theorem dX3_init_58 : decode cX3_init 58 = .ok (.putfield 42, 3) := by decide +kernel
theorem dX3_init_61 : decode cX3_init 61 = .ok (.aload_n 0, 1) := by decide +kernel
theorem dX3_init_62 : decode cX3_init 62 = .ok (.iload 6, 2) := by decide +kernel
theorem dX3_init_64 : decode cX3_init 64 = .ok (.putfield 45, 3) := by decide +kernel
theorem dX3_init_67 : decode cX3_init 67 = .ok (.return_, 1) := by decide +kernel
theorem dX3_isHandOf_0 : decode cX3_isHandOf 0 = .ok (.aload_n 0, 1) := by decide +kernel
theorem dX3_isHandOf_1 : decode cX3_isHandOf 1 = .ok (.getfield 33, 3) := by decide +kernel
theorem dX3_isHandOf_4 : decode cX3_isHandOf 4 = .ok (.iload_n 1, 1) := by decide +kernel
theorem dX3_isHandOf_5 : decode cX3_isHandOf 5 = .ok (.if_icmp .ne 31, 3) := by decide +kernel
theorem dX3_isHandOf_8 : decode cX3_isHandOf 8 = .ok (.aload_n 0, 1) := by decide +kernel
theorem dX3_isHandOf_9 : decode cX3_isHandOf 9 = .ok (.getfield 30, 3) := by decide +kernel
theorem dX3_isHandOf_12 : decode cX3_isHandOf 12 = .ok (.iconst 2, 1) := by decide +kernel
theorem dX3_isHandOf_13 : decode cX3_isHandOf 13 = .ok (.if_icmp .eq 19, 3) := by decide +kernel
theorem dX3_isHandOf_16 : decode cX3_isHandOf 16 = .ok (.aload_n 0, 1) := by decide +kernel
theorem dX3_isHandOf_17 : decode cX3_isHandOf 17 = .ok (.getfield 30, 3) := by decide +kernel
theorem dX3_isHandOf_20 : decode cX3_isHandOf 20 = .ok (.iconst 3, 1) := by decide +kernel
theorem dX3_isHandOf_21 : decode cX3_isHandOf 21 = .ok (.if_icmp .eq 11, 3) := by decide +kernel
theorem dX3_isHandOf_24 : decode cX3_isHandOf 24 = .ok (.aload_n 0, 1) := by decide +kernel
theorem dX3_isHandOf_25 : decode cX3_isHandOf 25 = .ok (.getfield 30, 3) := by decide +kernel
theorem dX3_isHandOf_28 : decode cX3_isHandOf 28 = .ok (.iconst 4, 1) := by decide +kernel
theorem dX3_isHandOf_29 : decode cX3_isHandOf 29 = .ok (.if_icmp .ne 7, 3) := by decide +kernel
theorem dX3_isHandOf_32 : decode cX3_isHandOf 32 = .ok (.iconst 1, 1) := by decide +kernel
theorem dX3_isHandOf_33 : decode cX3_isHandOf 33 = .ok (.goto 4, 3) := by decide +kernel
theorem dX3_isHandOf_36 : decode cX3_isHandOf 36 = .ok (.iconst 0, 1) := by decide +kernel
theorem dX3_isHandOf_37 : decode cX3_isHandOf 37 = .ok (.ireturn, 1) := by decide +kernel
theorem dX3_isSaleOf_0 : decode cX3_isSaleOf 0 = .ok (.aload_n 0, 1) := by decide +kernel
theorem dX3_isSaleOf_1 : decode cX3_isSaleOf 1 = .ok (.getfield 30, 3) := by decide +kernel
theorem dX3_isSaleOf_4 : decode cX3_isSaleOf 4 = .ok (.iconst 2, 1) := by decide +kernel
theorem dX3_isSaleOf_5 : decode cX3_isSaleOf 5 = .ok (.if_icmp .ne 19, 3) := by decide +kernel
theorem dX3_isSaleOf_8 : decode cX3_isSaleOf 8 = .ok (.aload_n 0, 1) := by decide +kernel
theorem dX3_isSaleOf_9 : decode cX3_isSaleOf 9 = .ok (.getfield 42, 3) := by decide +kernel
theorem dX3_isSaleOf_12 : decode cX3_isSaleOf 12 = .ok (.sipush 365, 3) := by decide +kernel
theorem dX3_isSaleOf_15 : decode cX3_isSaleOf 15 = .ok (.idiv, 1) := by decide +kernel
theorem dX3_isSaleOf_16 : decode cX3_isSaleOf 16 = .ok (.iload_n 1, 1) := by decide +kernel
theorem dX3_isSaleOf_17 : decode cX3_isSaleOf 17 = .ok (.if_icmp .ne 7, 3) := by decide +kernel
theorem dX3_isSaleOf_20 : decode cX3_isSaleOf 20 = .ok (.iconst 1, 1) := by decide +kernel
theorem dX3_isSaleOf_21 : decode cX3_isSaleOf 21 = .ok (.goto 4, 3) := by decide +kernel
theorem dX3_isSaleOf_24 : decode cX3_isSaleOf 24 = .ok (.iconst 0, 1) := by decide +kernel
theorem dX3_isSaleOf_25 : decode cX3_isSaleOf 25 = .ok (.ireturn, 1) := by decide +kernel
theorem dX4_init_0 : decode cX4_init 0 = .ok (.aload_n 0, 1) := by decide +kernel
theorem dX4_init_1 : decode cX4_init 1 = .ok (.invokespecial 3, 3) := by decide +kernel
theorem dX4_init_4 : decode cX4_init 4 = .ok (.aload_n 0, 1) := by decide +kernel
theorem dX4_init_5 : decode cX4_init 5 = .ok (.iconst (-1), 1) := by decide +kernel
theorem dX4_init_6 : decode cX4_init 6 = .ok (.putfield 9, 3) := by decide +kernel
theorem dX4_init_9 : decode cX4_init 9 = .ok (.aload_n 0, 1) := by decide +kernel
theorem dX4_init_10 : decode cX4_init 10 = .ok (.iconst (-1), 1) := by decide +kernel
theorem dX4_init_11 : decode cX4_init 11 = .ok (.putfield 15, 3) := by decide +kernel
theorem dX4_init_14 : decode cX4_init 14 = .ok (.aload_n 0, 1) := by decide +kernel
theorem dX4_init_15 : decode cX4_init 15 = .ok (.bipush 16, 2) := by decide +kernel
theorem dX4_init_17 : decode cX4_init 17 = .ok (.newarray .int, 2) := by decide +kernel
theorem dX4_init_19 : decode cX4_init 19 = .ok (.putfield 18, 3) := by decide +kernel
theorem dX4_init_22 : decode cX4_init 22 = .ok (.aload_n 0, 1) := by decide +kernel
theorem dX4_init_23 : decode cX4_init 23 = .ok (.bipush 16, 2) := by decide +kernel
theorem dX4_init_25 : decode cX4_init 25 = .ok (.newarray .int, 2) := by decide +kernel
theorem dX4_init_27 : decode cX4_init 27 = .ok (.putfield 22, 3) := by decide +kernel
theorem dX4_init_30 : decode cX4_init 30 = .ok (.aload_n 0, 1) := by decide +kernel
theorem dX4_init_31 : decode cX4_init 31 = .ok (.sipush 500, 3) := by decide +kernel
theorem dX4_init_34 : decode cX4_init 34 = .ok (.newarray .int, 2) := by decide +kernel
theorem dX4_init_36 : decode cX4_init 36 = .ok (.putfield 25, 3) := by decide +kernel
theorem dX4_init_39 : decode cX4_init 39 = .ok (.aload_n 0, 1) := by decide +kernel
theorem dX4_init_40 : decode cX4_init 40 = .ok (.bipush 64, 2) := by decide +kernel
theorem dX4_init_42 : decode cX4_init 42 = .ok (.newarray .int, 2) := by decide +kernel
theorem dX4_init_44 : decode cX4_init 44 = .ok (.putfield 28, 3) := by decide +kernel
theorem dX4_init_47 : decode cX4_init 47 = .ok (.aload_n 0, 1) := by decide +kernel
theorem dX4_init_48 : decode cX4_init 48 = .ok (.invokevirtual 31, 3) := by decide +kernel
theorem dX4_init_51 : decode cX4_init 51 = .ok (.return_, 1) := by decide +kernel
theorem dX4_blank_0 : decode cX4_blank 0 = .ok (.aload_n 0, 1) := by decide +kernel
theorem dX4_blank_1 : decode cX4_blank 1 = .ok (.iconst 0, 1) := by decide +kernel
theorem dX4_blank_2 : decode cX4_blank 2 = .ok (.putfield 34, 3) := by decide +kernel
theorem dX4_blank_5 : decode cX4_blank 5 = .ok (.aload_n 0, 1) := by decide +kernel
theorem dX4_blank_6 : decode cX4_blank 6 = .ok (.iconst 0, 1) := by decide +kernel
theorem dX4_blank_7 : decode cX4_blank 7 = .ok (.putfield 37, 3) := by decide +kernel
theorem dX4_blank_10 : decode cX4_blank 10 = .ok (.aload_n 0, 1) := by decide +kernel
theorem dX4_blank_11 : decode cX4_blank 11 = .ok (.iconst 0, 1) := by decide +kernel
theorem dX4_blank_12 : decode cX4_blank 12 = .ok (.putfield 40, 3) := by decide +kernel
theorem dX4_blank_15 : decode cX4_blank 15 = .ok (.aload_n 0, 1) := by decide +kernel
theorem dX4_blank_16 : decode cX4_blank 16 = .ok (.iconst (-1), 1) := by decide +kernel
theorem dX4_blank_17 : decode cX4_blank 17 = .ok (.putfield 43, 3) := by decide +kernel
theorem dX4_blank_20 : decode cX4_blank 20 = .ok (.aload_n 0, 1) := by decide +kernel
theorem dX4_blank_21 : decode cX4_blank 21 = .ok (.bipush 70, 2) := by decide +kernel
theorem dX4_blank_23 : decode cX4_blank 23 = .ok (.putfield 46, 3) := by decide +kernel
theorem dX4_blank_26 : decode cX4_blank 26 = .ok (.aload_n 0, 1) := by decide +kernel
theorem dX4_blank_27 : decode cX4_blank 27 = .ok (.sipush 300, 3) := by decide +kernel
theorem dX4_blank_30 : decode cX4_blank 30 = .ok (.putfield 49, 3) := by decide +kernel
theorem dX4_blank_33 : decode cX4_blank 33 = .ok (.aload_n 0, 1) := by decide +kernel
theorem dX4_blank_34 : decode cX4_blank 34 = .ok (.iconst 0, 1) := by decide +kernel
theorem dX4_blank_35 : decode cX4_blank 35 = .ok (.putfield 52, 3) := by decide +kernel
theorem dX4_blank_38 : decode cX4_blank 38 = .ok (.aload_n 0, 1) := by decide +kernel
theorem dX4_blank_39 : decode cX4_blank 39 = .ok (.iconst 0, 1) := by decide +kernel
theorem dX4_blank_40 : decode cX4_blank 40 = .ok (.putfield 55, 3) := by decide +kernel
theorem dX4_blank_43 : decode cX4_blank 43 = .ok (.return_, 1) := by decide +kernel
theorem dX4_startDue_0 : decode cX4_startDue 0 = .ok (.aload_n 0, 1) := by decide +kernel
theorem dX4_startDue_1 : decode cX4_startDue 1 = .ok (.iconst 0, 1) := by decide +kernel
theorem dX4_startDue_2 : decode cX4_startDue 2 = .ok (.putfield 55, 3) := by decide +kernel
theorem dX4_startDue_5 : decode cX4_startDue 5 = .ok (.return_, 1) := by decide +kernel
theorem dX4_addDue_0 : decode cX4_addDue 0 = .ok (.aload_n 0, 1) := by decide +kernel
theorem dX4_addDue_1 : decode cX4_addDue 1 = .ok (.getfield 55, 3) := by decide +kernel
theorem dX4_addDue_4 : decode cX4_addDue 4 = .ok (.aload_n 0, 1) := by decide +kernel
theorem dX4_addDue_5 : decode cX4_addDue 5 = .ok (.getfield 25, 3) := by decide +kernel
theorem dX4_addDue_8 : decode cX4_addDue 8 = .ok (.arraylength, 1) := by decide +kernel
theorem dX4_addDue_9 : decode cX4_addDue 9 = .ok (.if_icmp .ge 23, 3) := by decide +kernel
theorem dX4_addDue_12 : decode cX4_addDue 12 = .ok (.aload_n 0, 1) := by decide +kernel
theorem dX4_addDue_13 : decode cX4_addDue 13 = .ok (.getfield 25, 3) := by decide +kernel
theorem dX4_addDue_16 : decode cX4_addDue 16 = .ok (.aload_n 0, 1) := by decide +kernel
theorem dX4_addDue_17 : decode cX4_addDue 17 = .ok (.getfield 55, 3) := by decide +kernel
theorem dX4_addDue_20 : decode cX4_addDue 20 = .ok (.iload_n 1, 1) := by decide +kernel
theorem dX4_addDue_21 : decode cX4_addDue 21 = .ok (.iastore, 1) := by decide +kernel
theorem dX4_addDue_22 : decode cX4_addDue 22 = .ok (.aload_n 0, 1) := by decide +kernel
theorem dX4_addDue_23 : decode cX4_addDue 23 = .ok (.dup, 1) := by decide +kernel
theorem dX4_addDue_24 : decode cX4_addDue 24 = .ok (.getfield 55, 3) := by decide +kernel
theorem dX4_addDue_27 : decode cX4_addDue 27 = .ok (.iconst 1, 1) := by decide +kernel
theorem dX4_addDue_28 : decode cX4_addDue 28 = .ok (.iadd, 1) := by decide +kernel
theorem dX4_addDue_29 : decode cX4_addDue 29 = .ok (.putfield 55, 3) := by decide +kernel
theorem dX4_addDue_32 : decode cX4_addDue 32 = .ok (.return_, 1) := by decide +kernel
theorem dX4_lastStep_0 : decode cX4_lastStep 0 = .ok (.aload_n 0, 1) := by decide +kernel
theorem dX4_lastStep_1 : decode cX4_lastStep 1 = .ok (.getfield 34, 3) := by decide +kernel
theorem dX4_lastStep_4 : decode cX4_lastStep 4 = .ok (.ifCond .le 29, 3) := by decide +kernel
theorem dX4_lastStep_7 : decode cX4_lastStep 7 = .ok (.aload_n 0, 1) := by decide +kernel
theorem dX4_lastStep_8 : decode cX4_lastStep 8 = .ok (.getfield 34, 3) := by decide +kernel
theorem dX4_lastStep_11 : decode cX4_lastStep 11 = .ok (.aload_n 0, 1) := by decide +kernel
theorem dX4_lastStep_12 : decode cX4_lastStep 12 = .ok (.getfield 18, 3) := by decide +kernel
theorem dX4_lastStep_15 : decode cX4_lastStep 15 = .ok (.arraylength, 1) := by decide +kernel
theorem dX4_lastStep_16 : decode cX4_lastStep 16 = .ok (.if_icmp .gt 17, 3) := by decide +kernel
theorem dX4_lastStep_19 : decode cX4_lastStep 19 = .ok (.aload_n 0, 1) := by decide +kernel
theorem dX4_lastStep_20 : decode cX4_lastStep 20 = .ok (.getfield 18, 3) := by decide +kernel
theorem dX4_lastStep_23 : decode cX4_lastStep 23 = .ok (.aload_n 0, 1) := by decide +kernel
theorem dX4_lastStep_24 : decode cX4_lastStep 24 = .ok (.getfield 34, 3) := by decide +kernel
theorem dX4_lastStep_27 : decode cX4_lastStep 27 = .ok (.iconst 1, 1) := by decide +kernel
theorem dX4_lastStep_28 : decode cX4_lastStep 28 = .ok (.isub, 1) := by decide +kernel
theorem dX4_lastStep_29 : decode cX4_lastStep 29 = .ok (.iaload, 1) := by decide +kernel
theorem dX4_lastStep_30 : decode cX4_lastStep 30 = .ok (.goto 4, 3) := by decide +kernel
theorem dX4_lastStep_33 : decode cX4_lastStep 33 = .ok (.iconst 0, 1) := by decide +kernel
theorem dX4_lastStep_34 : decode cX4_lastStep 34 = .ok (.ireturn, 1) := by decide +kernel
theorem dX4_addStep_0 : decode cX4_addStep 0 = .ok (.aload_n 0, 1) := by decide +kernel
theorem dX4_addStep_1 : decode cX4_addStep 1 = .ok (.getfield 34, 3) := by decide +kernel
theorem dX4_addStep_4 : decode cX4_addStep 4 = .ok (.aload_n 0, 1) := by decide +kernel
theorem dX4_addStep_5 : decode cX4_addStep 5 = .ok (.getfield 18, 3) := by decide +kernel
theorem dX4_addStep_8 : decode cX4_addStep 8 = .ok (.arraylength, 1) := by decide +kernel
theorem dX4_addStep_9 : decode cX4_addStep 9 = .ok (.if_icmp .ge 33, 3) := by decide +kernel
theorem dX4_addStep_12 : decode cX4_addStep 12 = .ok (.aload_n 0, 1) := by decide +kernel
theorem dX4_addStep_13 : decode cX4_addStep 13 = .ok (.getfield 18, 3) := by decide +kernel
theorem dX4_addStep_16 : decode cX4_addStep 16 = .ok (.aload_n 0, 1) := by decide +kernel
theorem dX4_addStep_17 : decode cX4_addStep 17 = .ok (.getfield 34, 3) := by decide +kernel
theorem dX4_addStep_20 : decode cX4_addStep 20 = .ok (.iload_n 1, 1) := by decide +kernel
theorem dX4_addStep_21 : decode cX4_addStep 21 = .ok (.iastore, 1) := by decide +kernel
theorem dX4_addStep_22 : decode cX4_addStep 22 = .ok (.aload_n 0, 1) := by decide +kernel
theorem dX4_addStep_23 : decode cX4_addStep 23 = .ok (.getfield 22, 3) := by decide +kernel
theorem dX4_addStep_26 : decode cX4_addStep 26 = .ok (.aload_n 0, 1) := by decide +kernel
theorem dX4_addStep_27 : decode cX4_addStep 27 = .ok (.getfield 34, 3) := by decide +kernel
theorem dX4_addStep_30 : decode cX4_addStep 30 = .ok (.iload_n 2, 1) := by decide +kernel
theorem dX4_addStep_31 : decode cX4_addStep 31 = .ok (.iastore, 1) := by decide +kernel
theorem dX4_addStep_32 : decode cX4_addStep 32 = .ok (.aload_n 0, 1) := by decide +kernel
theorem dX4_addStep_33 : decode cX4_addStep 33 = .ok (.dup, 1) := by decide +kernel
theorem dX4_addStep_34 : decode cX4_addStep 34 = .ok (.getfield 34, 3) := by decide +kernel
theorem dX4_addStep_37 : decode cX4_addStep 37 = .ok (.iconst 1, 1) := by decide +kernel
theorem dX4_addStep_38 : decode cX4_addStep 38 = .ok (.iadd, 1) := by decide +kernel
theorem dX4_addStep_39 : decode cX4_addStep 39 = .ok (.putfield 34, 3) := by decide +kernel
theorem dX4_addStep_42 : decode cX4_addStep 42 = .ok (.return_, 1) := by decide +kernel
theorem dX4_agreeWith_0 : decode cX4_agreeWith 0 = .ok (.aload_n 0, 1) := by decide +kernel
theorem dX4_agreeWith_1 : decode cX4_agreeWith 1 = .ok (.dup, 1) := by decide +kernel
theorem dX4_agreeWith_2 : decode cX4_agreeWith 2 = .ok (.getfield 52, 3) := by decide +kernel
theorem dX4_agreeWith_5 : decode cX4_agreeWith 5 = .ok (.iconst 1, 1) := by decide +kernel
theorem dX4_agreeWith_6 : decode cX4_agreeWith 6 = .ok (.iload_n 1, 1) := by decide +kernel
theorem dX4_agreeWith_7 : decode cX4_agreeWith 7 = .ok (.ishl, 1) := by decide +kernel
theorem dX4_agreeWith_8 : decode cX4_agreeWith 8 = .ok (.ior, 1) := by decide +kernel
theorem dX4_agreeWith_9 : decode cX4_agreeWith 9 = .ok (.putfield 52, 3) := by decide +kernel
theorem dX4_agreeWith_12 : decode cX4_agreeWith 12 = .ok (.return_, 1) := by decide +kernel
theorem dX4_isFor_0 : decode cX4_isFor 0 = .ok (.iload_n 1, 1) := by decide +kernel
theorem dX4_isFor_1 : decode cX4_isFor 1 = .ok (.aload_n 0, 1) := by decide +kernel
theorem dX4_isFor_2 : decode cX4_isFor 2 = .ok (.getfield 9, 3) := by decide +kernel
theorem dX4_isFor_5 : decode cX4_isFor 5 = .ok (.if_icmp .eq 19, 3) := by decide +kernel
theorem dX4_isFor_8 : decode cX4_isFor 8 = .ok (.iload_n 1, 1) := by decide +kernel
theorem dX4_isFor_9 : decode cX4_isFor 9 = .ok (.ifCond .lt 19, 3) := by decide +kernel
theorem dX4_isFor_12 : decode cX4_isFor 12 = .ok (.aload_n 0, 1) := by decide +kernel
theorem dX4_isFor_13 : decode cX4_isFor 13 = .ok (.getfield 52, 3) := by decide +kernel
theorem dX4_isFor_16 : decode cX4_isFor 16 = .ok (.iload_n 1, 1) := by decide +kernel
theorem dX4_isFor_17 : decode cX4_isFor 17 = .ok (.ishr, 1) := by decide +kernel
theorem dX4_isFor_18 : decode cX4_isFor 18 = .ok (.iconst 1, 1) := by decide +kernel
theorem dX4_isFor_19 : decode cX4_isFor 19 = .ok (.iand, 1) := by decide +kernel
theorem dX4_isFor_20 : decode cX4_isFor 20 = .ok (.iconst 1, 1) := by decide +kernel
theorem dX4_isFor_21 : decode cX4_isFor 21 = .ok (.if_icmp .ne 7, 3) := by decide +kernel
theorem dX4_isFor_24 : decode cX4_isFor 24 = .ok (.iconst 1, 1) := by decide +kernel
theorem dX4_isFor_25 : decode cX4_isFor 25 = .ok (.goto 4, 3) := by decide +kernel
theorem dX4_isFor_28 : decode cX4_isFor 28 = .ok (.iconst 0, 1) := by decide +kernel
theorem dX4_isFor_29 : decode cX4_isFor 29 = .ok (.ireturn, 1) := by decide +kernel
theorem dX4_partOf_0 : decode cX4_partOf 0 = .ok (.lconst 0, 1) := by decide +kernel
theorem dX4_partOf_1 : decode cX4_partOf 1 = .ok (.lstore_n 2, 1) := by decide +kernel
theorem dX4_partOf_2 : decode cX4_partOf 2 = .ok (.iconst 0, 1) := by decide +kernel
theorem dX4_partOf_3 : decode cX4_partOf 3 = .ok (.istore 4, 2) := by decide +kernel
theorem dX4_partOf_5 : decode cX4_partOf 5 = .ok (.iconst 0, 1) := by decide +kernel
theorem dX4_partOf_6 : decode cX4_partOf 6 = .ok (.istore 5, 2) := by decide +kernel
theorem dX4_partOf_8 : decode cX4_partOf 8 = .ok (.iload 5, 2) := by decide +kernel
theorem dX4_partOf_10 : decode cX4_partOf 10 = .ok (.aload_n 0, 1) := by decide +kernel
theorem dX4_partOf_11 : decode cX4_partOf 11 = .ok (.getfield 34, 3) := by decide +kernel
theorem dX4_partOf_14 : decode cX4_partOf 14 = .ok (.if_icmp .ge 59, 3) := by decide +kernel
theorem dX4_partOf_17 : decode cX4_partOf 17 = .ok (.iload 5, 2) := by decide +kernel
theorem dX4_partOf_19 : decode cX4_partOf 19 = .ok (.aload_n 0, 1) := by decide +kernel
theorem dX4_partOf_20 : decode cX4_partOf 20 = .ok (.getfield 18, 3) := by decide +kernel
theorem dX4_partOf_23 : decode cX4_partOf 23 = .ok (.arraylength, 1) := by decide +kernel
theorem dX4_partOf_24 : decode cX4_partOf 24 = .ok (.if_icmp .ge 49, 3) := by decide +kernel
theorem dX4_partOf_27 : decode cX4_partOf 27 = .ok (.lload_n 2, 1) := by decide +kernel
theorem dX4_partOf_28 : decode cX4_partOf 28 = .ok (.iconst 0, 1) := by decide +kernel
theorem dX4_partOf_29 : decode cX4_partOf 29 = .ok (.iload_n 1, 1) := by decide +kernel
theorem dX4_partOf_30 : decode cX4_partOf 30 = .ok (.aload_n 0, 1) := by decide +kernel
theorem dX4_partOf_31 : decode cX4_partOf 31 = .ok (.getfield 18, 3) := by decide +kernel
theorem dX4_partOf_34 : decode cX4_partOf 34 = .ok (.iload 5, 2) := by decide +kernel
theorem dX4_partOf_36 : decode cX4_partOf 36 = .ok (.iaload, 1) := by decide +kernel
theorem dX4_partOf_37 : decode cX4_partOf 37 = .ok (.invokestatic 58, 3) := by decide +kernel
theorem dX4_partOf_40 : decode cX4_partOf 40 = .ok (.iload 4, 2) := by decide +kernel
theorem dX4_partOf_42 : decode cX4_partOf 42 = .ok (.isub, 1) := by decide +kernel
theorem dX4_partOf_43 : decode cX4_partOf 43 = .ok (.invokestatic 64, 3) := by decide +kernel
theorem dX4_partOf_46 : decode cX4_partOf 46 = .ok (.i2l, 1) := by decide +kernel
theorem dX4_partOf_47 : decode cX4_partOf 47 = .ok (.aload_n 0, 1) := by decide +kernel
theorem dX4_partOf_48 : decode cX4_partOf 48 = .ok (.getfield 22, 3) := by decide +kernel
theorem dX4_partOf_51 : decode cX4_partOf 51 = .ok (.iload 5, 2) := by decide +kernel
theorem dX4_partOf_53 : decode cX4_partOf 53 = .ok (.iaload, 1) := by decide +kernel
theorem dX4_partOf_54 : decode cX4_partOf 54 = .ok (.i2l, 1) := by decide +kernel
theorem dX4_partOf_55 : decode cX4_partOf 55 = .ok (.lmul, 1) := by decide +kernel
theorem dX4_partOf_56 : decode cX4_partOf 56 = .ok (.ladd, 1) := by decide +kernel
theorem dX4_partOf_57 : decode cX4_partOf 57 = .ok (.lstore_n 2, 1) := by decide +kernel
theorem dX4_partOf_58 : decode cX4_partOf 58 = .ok (.aload_n 0, 1) := by decide +kernel
theorem dX4_partOf_59 : decode cX4_partOf 59 = .ok (.getfield 18, 3) := by decide +kernel
theorem dX4_partOf_62 : decode cX4_partOf 62 = .ok (.iload 5, 2) := by decide +kernel
theorem dX4_partOf_64 : decode cX4_partOf 64 = .ok (.iaload, 1) := by decide +kernel
theorem dX4_partOf_65 : decode cX4_partOf 65 = .ok (.istore 4, 2) := by decide +kernel
theorem dX4_partOf_67 : decode cX4_partOf 67 = .ok (.iinc 5 1, 3) := by decide +kernel
theorem dX4_partOf_70 : decode cX4_partOf 70 = .ok (.goto (-62), 3) := by decide +kernel
theorem dX4_partOf_73 : decode cX4_partOf 73 = .ok (.lload_n 2, 1) := by decide +kernel
theorem dX4_partOf_74 : decode cX4_partOf 74 = .ok (.iconst 0, 1) := by decide +kernel
theorem dX4_partOf_75 : decode cX4_partOf 75 = .ok (.iload_n 1, 1) := by decide +kernel
theorem dX4_partOf_76 : decode cX4_partOf 76 = .ok (.iload 4, 2) := by decide +kernel
theorem dX4_partOf_78 : decode cX4_partOf 78 = .ok (.isub, 1) := by decide +kernel
theorem dX4_partOf_79 : decode cX4_partOf 79 = .ok (.invokestatic 64, 3) := by decide +kernel
theorem dX4_partOf_82 : decode cX4_partOf 82 = .ok (.i2l, 1) := by decide +kernel
theorem dX4_partOf_83 : decode cX4_partOf 83 = .ok (.aload_n 0, 1) := by decide +kernel
theorem dX4_partOf_84 : decode cX4_partOf 84 = .ok (.getfield 37, 3) := by decide +kernel
theorem dX4_partOf_87 : decode cX4_partOf 87 = .ok (.i2l, 1) := by decide +kernel
theorem dX4_partOf_88 : decode cX4_partOf 88 = .ok (.lmul, 1) := by decide +kernel
theorem dX4_partOf_89 : decode cX4_partOf 89 = .ok (.ladd, 1) := by decide +kernel
theorem dX4_partOf_90 : decode cX4_partOf 90 = .ok (.lstore_n 2, 1) := by decide +kernel
theorem dX4_partOf_91 : decode cX4_partOf 91 = .ok (.lload_n 2, 1) := by decide +kernel
theorem dX4_partOf_92 : decode cX4_partOf 92 = .ok (.ldc2_w 67, 3) := by decide +kernel
theorem dX4_partOf_95 : decode cX4_partOf 95 = .ok (.ldiv, 1) := by decide +kernel
theorem dX4_partOf_96 : decode cX4_partOf 96 = .ok (.lstore 5, 2) := by decide +kernel
theorem dX4_partOf_98 : decode cX4_partOf 98 = .ok (.aload_n 0, 1) := by decide +kernel
theorem dX4_partOf_99 : decode cX4_partOf 99 = .ok (.getfield 43, 3) := by decide +kernel
theorem dX4_partOf_102 : decode cX4_partOf 102 = .ok (.iconst (-1), 1) := by decide +kernel
theorem dX4_partOf_103 : decode cX4_partOf 103 = .ok (.if_icmp .ne 8, 3) := by decide +kernel
theorem dX4_partOf_106 : decode cX4_partOf 106 = .ok (.lload 5, 2) := by decide +kernel
theorem dX4_partOf_108 : decode cX4_partOf 108 = .ok (.goto 13, 3) := by decide +kernel
theorem dX4_partOf_111 : decode cX4_partOf 111 = .ok (.lload 5, 2) := by decide +kernel
theorem dX4_partOf_113 : decode cX4_partOf 113 = .ok (.aload_n 0, 1) := by decide +kernel
theorem dX4_partOf_114 : decode cX4_partOf 114 = .ok (.getfield 43, 3) := by decide +kernel
theorem dX4_partOf_117 : decode cX4_partOf 117 = .ok (.i2l, 1) := by decide +kernel
theorem dX4_partOf_118 : decode cX4_partOf 118 = .ok (.invokestatic 69, 3) := by decide +kernel
theorem dX4_partOf_121 : decode cX4_partOf 121 = .ok (.l2i, 1) := by decide +kernel
theorem dX4_partOf_122 : decode cX4_partOf 122 = .ok (.ireturn, 1) := by decide +kernel
theorem dX4_isDue_0 : decode cX4_isDue 0 = .ok (.aload_n 0, 1) := by decide +kernel
theorem dX4_isDue_1 : decode cX4_isDue 1 = .ok (.getfield 55, 3) := by decide +kernel
theorem dX4_isDue_4 : decode cX4_isDue 4 = .ok (.ifCond .ne 7, 3) := by decide +kernel
theorem dX4_isDue_7 : decode cX4_isDue 7 = .ok (.iload_n 2, 1) := by decide +kernel
theorem dX4_isDue_8 : decode cX4_isDue 8 = .ok (.goto 16, 3) := by decide +kernel
theorem dX4_isDue_11 : decode cX4_isDue 11 = .ok (.aload_n 0, 1) := by decide +kernel
theorem dX4_isDue_12 : decode cX4_isDue 12 = .ok (.aload_n 1, 1) := by decide +kernel
theorem dX4_isDue_13 : decode cX4_isDue 13 = .ok (.invokevirtual 72, 3) := by decide +kernel
theorem dX4_isDue_16 : decode cX4_isDue 16 = .ok (.ifCond .eq 7, 3) := by decide +kernel
theorem dX4_isDue_19 : decode cX4_isDue 19 = .ok (.iconst 1, 1) := by decide +kernel
theorem dX4_isDue_20 : decode cX4_isDue 20 = .ok (.goto 4, 3) := by decide +kernel
theorem dX4_isDue_23 : decode cX4_isDue 23 = .ok (.iconst 0, 1) := by decide +kernel
theorem dX4_isDue_24 : decode cX4_isDue 24 = .ok (.ireturn, 1) := by decide +kernel
theorem dX4_worth_0 : decode cX4_worth 0 = .ok (.iconst 0, 1) := by decide +kernel
theorem dX4_worth_1 : decode cX4_worth 1 = .ok (.istore_n 2, 1) := by decide +kernel
theorem dX4_worth_2 : decode cX4_worth 2 = .ok (.iconst 0, 1) := by decide +kernel
theorem dX4_worth_3 : decode cX4_worth 3 = .ok (.istore_n 3, 1) := by decide +kernel
theorem dX4_worth_4 : decode cX4_worth 4 = .ok (.iload_n 3, 1) := by decide +kernel
theorem dX4_worth_5 : decode cX4_worth 5 = .ok (.aload_n 0, 1) := by decide +kernel
theorem dX4_worth_6 : decode cX4_worth 6 = .ok (.getfield 55, 3) := by decide +kernel
theorem dX4_worth_9 : decode cX4_worth 9 = .ok (.if_icmp .ge 136, 3) := by decide +kernel
theorem dX4_worth_12 : decode cX4_worth 12 = .ok (.iload_n 3, 1) := by decide +kernel
theorem dX4_worth_13 : decode cX4_worth 13 = .ok (.aload_n 0, 1) := by decide +kernel
theorem dX4_worth_14 : decode cX4_worth 14 = .ok (.getfield 25, 3) := by decide +kernel
theorem dX4_worth_17 : decode cX4_worth 17 = .ok (.arraylength, 1) := by decide +kernel
theorem dX4_worth_18 : decode cX4_worth 18 = .ok (.if_icmp .ge 127, 3) := by decide +kernel
theorem dX4_worth_21 : decode cX4_worth 21 = .ok (.aload_n 0, 1) := by decide +kernel
theorem dX4_worth_22 : decode cX4_worth 22 = .ok (.getfield 25, 3) := by decide +kernel
theorem dX4_worth_25 : decode cX4_worth 25 = .ok (.iload_n 3, 1) := by decide +kernel
theorem dX4_worth_26 : decode cX4_worth 26 = .ok (.iaload, 1) := by decide +kernel
theorem dX4_worth_27 : decode cX4_worth 27 = .ok (.istore 4, 2) := by decide +kernel
theorem dX4_worth_29 : decode cX4_worth 29 = .ok (.iload 4, 2) := by decide +kernel
theorem dX4_worth_31 : decode cX4_worth 31 = .ok (.bipush (-11), 2) := by decide +kernel
theorem dX4_worth_33 : decode cX4_worth 33 = .ok (.if_icmp .le 30, 3) := by decide +kernel
theorem dX4_worth_36 : decode cX4_worth 36 = .ok (.iload_n 2, 1) := by decide +kernel
theorem dX4_worth_37 : decode cX4_worth 37 = .ok (.aload_n 0, 1) := by decide +kernel
theorem dX4_worth_38 : decode cX4_worth 38 = .ok (.getfield 28, 3) := by decide +kernel
theorem dX4_worth_41 : decode cX4_worth 41 = .ok (.arraylength, 1) := by decide +kernel
theorem dX4_worth_42 : decode cX4_worth 42 = .ok (.if_icmp .ge 21, 3) := by decide +kernel
theorem dX4_worth_45 : decode cX4_worth 45 = .ok (.aload_n 0, 1) := by decide +kernel
theorem dX4_worth_46 : decode cX4_worth 46 = .ok (.getfield 28, 3) := by decide +kernel
theorem dX4_worth_49 : decode cX4_worth 49 = .ok (.iload_n 2, 1) := by decide +kernel
theorem dX4_worth_50 : decode cX4_worth 50 = .ok (.iload 4, 2) := by decide +kernel
theorem dX4_worth_52 : decode cX4_worth 52 = .ok (.aload_n 1, 1) := by decide +kernel
theorem dX4_worth_53 : decode cX4_worth 53 = .ok (.invokestatic 76, 3) := by decide +kernel
theorem dX4_worth_56 : decode cX4_worth 56 = .ok (.iastore, 1) := by decide +kernel
theorem dX4_worth_57 : decode cX4_worth 57 = .ok (.iinc 2 1, 3) := by decide +kernel
theorem dX4_worth_60 : decode cX4_worth 60 = .ok (.goto 79, 3) := by decide +kernel
theorem dX4_worth_63 : decode cX4_worth 63 = .ok (.iload 4, 2) := by decide +kernel
theorem dX4_worth_65 : decode cX4_worth 65 = .ok (.bipush (-13), 2) := by decide +kernel
theorem dX4_worth_67 : decode cX4_worth 67 = .ok (.if_icmp .ne 37, 3) := by decide +kernel
theorem dX4_worth_70 : decode cX4_worth 70 = .ok (.iload_n 2, 1) := by decide +kernel
theorem dX4_worth_71 : decode cX4_worth 71 = .ok (.ifCond .le 33, 3) := by decide +kernel
theorem dX4_worth_74 : decode cX4_worth 74 = .ok (.aload_n 0, 1) := by decide +kernel
theorem dX4_worth_75 : decode cX4_worth 75 = .ok (.getfield 28, 3) := by decide +kernel
theorem dX4_worth_78 : decode cX4_worth 78 = .ok (.iload_n 2, 1) := by decide +kernel
theorem dX4_worth_79 : decode cX4_worth 79 = .ok (.iconst 1, 1) := by decide +kernel
theorem dX4_worth_80 : decode cX4_worth 80 = .ok (.isub, 1) := by decide +kernel
theorem dX4_worth_81 : decode cX4_worth 81 = .ok (.aload_n 0, 1) := by decide +kernel
theorem dX4_worth_82 : decode cX4_worth 82 = .ok (.getfield 28, 3) := by decide +kernel
theorem dX4_worth_85 : decode cX4_worth 85 = .ok (.iload_n 2, 1) := by decide +kernel
theorem dX4_worth_86 : decode cX4_worth 86 = .ok (.iconst 1, 1) := by decide +kernel
theorem dX4_worth_87 : decode cX4_worth 87 = .ok (.isub, 1) := by decide +kernel
theorem dX4_worth_88 : decode cX4_worth 88 = .ok (.iaload, 1) := by decide +kernel
theorem dX4_worth_89 : decode cX4_worth 89 = .ok (.ifCond .ne 7, 3) := by decide +kernel
theorem dX4_worth_92 : decode cX4_worth 92 = .ok (.iconst 1, 1) := by decide +kernel
theorem dX4_worth_93 : decode cX4_worth 93 = .ok (.goto 4, 3) := by decide +kernel
theorem dX4_worth_96 : decode cX4_worth 96 = .ok (.iconst 0, 1) := by decide +kernel
theorem dX4_worth_97 : decode cX4_worth 97 = .ok (.invokestatic 80, 3) := by decide +kernel
theorem dX4_worth_100 : decode cX4_worth 100 = .ok (.iastore, 1) := by decide +kernel
theorem dX4_worth_101 : decode cX4_worth 101 = .ok (.goto 38, 3) := by decide +kernel
theorem dX4_worth_104 : decode cX4_worth 104 = .ok (.iload_n 2, 1) := by decide +kernel
theorem dX4_worth_105 : decode cX4_worth 105 = .ok (.iconst 1, 1) := by decide +kernel
theorem dX4_worth_106 : decode cX4_worth 106 = .ok (.if_icmp .le 33, 3) := by decide +kernel
theorem dX4_worth_109 : decode cX4_worth 109 = .ok (.iinc 2 (-1), 3) := by decide +kernel
theorem dX4_worth_112 : decode cX4_worth 112 = .ok (.aload_n 0, 1) := by decide +kernel
theorem dX4_worth_113 : decode cX4_worth 113 = .ok (.getfield 28, 3) := by decide +kernel
theorem dX4_worth_116 : decode cX4_worth 116 = .ok (.iload_n 2, 1) := by decide +kernel
theorem dX4_worth_117 : decode cX4_worth 117 = .ok (.iconst 1, 1) := by decide +kernel
theorem dX4_worth_118 : decode cX4_worth 118 = .ok (.isub, 1) := by decide +kernel
theorem dX4_worth_119 : decode cX4_worth 119 = .ok (.iload 4, 2) := by decide +kernel
theorem dX4_worth_121 : decode cX4_worth 121 = .ok (.aload_n 0, 1) := by decide +kernel
theorem dX4_worth_122 : decode cX4_worth 122 = .ok (.getfield 28, 3) := by decide +kernel
theorem dX4_worth_125 : decode cX4_worth 125 = .ok (.iload_n 2, 1) := by decide +kernel
theorem dX4_worth_126 : decode cX4_worth 126 = .ok (.iconst 1, 1) := by decide +kernel
theorem dX4_worth_127 : decode cX4_worth 127 = .ok (.isub, 1) := by decide +kernel
theorem dX4_worth_128 : decode cX4_worth 128 = .ok (.iaload, 1) := by decide +kernel
theorem dX4_worth_129 : decode cX4_worth 129 = .ok (.aload_n 0, 1) := by decide +kernel
theorem dX4_worth_130 : decode cX4_worth 130 = .ok (.getfield 28, 3) := by decide +kernel
theorem dX4_worth_133 : decode cX4_worth 133 = .ok (.iload_n 2, 1) := by decide +kernel
theorem dX4_worth_134 : decode cX4_worth 134 = .ok (.iaload, 1) := by decide +kernel
theorem dX4_worth_135 : decode cX4_worth 135 = .ok (.invokestatic 84, 3) := by decide +kernel
theorem dX4_worth_138 : decode cX4_worth 138 = .ok (.iastore, 1) := by decide +kernel
theorem dX4_worth_139 : decode cX4_worth 139 = .ok (.iinc 3 1, 3) := by decide +kernel
theorem dX4_worth_142 : decode cX4_worth 142 = .ok (.goto (-138), 3) := by decide +kernel
theorem dX4_worth_145 : decode cX4_worth 145 = .ok (.aload_n 0, 1) := by decide +kernel
theorem dX4_worth_146 : decode cX4_worth 146 = .ok (.getfield 28, 3) := by decide +kernel
theorem dX4_worth_149 : decode cX4_worth 149 = .ok (.iconst 0, 1) := by decide +kernel
theorem dX4_worth_150 : decode cX4_worth 150 = .ok (.iaload, 1) := by decide +kernel
theorem dX4_worth_151 : decode cX4_worth 151 = .ok (.ireturn, 1) := by decide +kernel
theorem dX4_operand_0 : decode cX4_operand 0 = .ok (.iload_n 0, 1) := by decide +kernel
theorem dX4_operand_1 : decode cX4_operand 1 = .ok (.ifCond .lt 5, 3) := by decide +kernel
theorem dX4_operand_4 : decode cX4_operand 4 = .ok (.iload_n 0, 1) := by decide +kernel
theorem dX4_operand_5 : decode cX4_operand 5 = .ok (.ireturn, 1) := by decide +kernel
theorem dX4_operand_6 : decode cX4_operand 6 = .ok (.iconst (-1), 1) := by decide +kernel
theorem dX4_operand_7 : decode cX4_operand 7 = .ok (.iload_n 0, 1) := by decide +kernel
theorem dX4_operand_8 : decode cX4_operand 8 = .ok (.isub, 1) := by decide +kernel
theorem dX4_operand_9 : decode cX4_operand 9 = .ok (.aload_n 1, 1) := by decide +kernel
theorem dX4_operand_10 : decode cX4_operand 10 = .ok (.arraylength, 1) := by decide +kernel
theorem dX4_operand_11 : decode cX4_operand 11 = .ok (.if_icmp .ge 11, 3) := by decide +kernel
theorem dX4_operand_14 : decode cX4_operand 14 = .ok (.aload_n 1, 1) := by decide +kernel
theorem dX4_operand_15 : decode cX4_operand 15 = .ok (.iconst (-1), 1) := by decide +kernel
theorem dX4_operand_16 : decode cX4_operand 16 = .ok (.iload_n 0, 1) := by decide +kernel
theorem dX4_operand_17 : decode cX4_operand 17 = .ok (.isub, 1) := by decide +kernel
theorem dX4_operand_18 : decode cX4_operand 18 = .ok (.iaload, 1) := by decide +kernel
theorem dX4_operand_19 : decode cX4_operand 19 = .ok (.goto 4, 3) := by decide +kernel
theorem dX4_operand_22 : decode cX4_operand 22 = .ok (.iconst 0, 1) := by decide +kernel
theorem dX4_operand_23 : decode cX4_operand 23 = .ok (.ireturn, 1) := by decide +kernel
theorem dX4_join_0 : decode cX4_join 0 = .ok (.iload_n 0, 1) := by decide +kernel
theorem dX4_join_1 : decode cX4_join 1 = .ok (.tableswitch 121 (-18) (-11) #[117, 113, 109, 95, 81, 121, 64, 47], 47) := by decide +kernel
theorem dX4_join_48 : decode cX4_join 48 = .ok (.iload_n 1, 1) := by decide +kernel
theorem dX4_join_49 : decode cX4_join 49 = .ok (.ifCond .ne 7, 3) := by decide +kernel
theorem dX4_join_52 : decode cX4_join 52 = .ok (.iload_n 2, 1) := by decide +kernel
theorem dX4_join_53 : decode cX4_join 53 = .ok (.ifCond .eq 7, 3) := by decide +kernel
theorem dX4_join_56 : decode cX4_join 56 = .ok (.iconst 1, 1) := by decide +kernel
theorem dX4_join_57 : decode cX4_join 57 = .ok (.goto 4, 3) := by decide +kernel
theorem dX4_join_60 : decode cX4_join 60 = .ok (.iconst 0, 1) := by decide +kernel
theorem dX4_join_61 : decode cX4_join 61 = .ok (.invokestatic 80, 3) := by decide +kernel
theorem dX4_join_64 : decode cX4_join 64 = .ok (.ireturn, 1) := by decide +kernel
theorem dX4_join_65 : decode cX4_join 65 = .ok (.iload_n 1, 1) := by decide +kernel
theorem dX4_join_66 : decode cX4_join 66 = .ok (.ifCond .eq 11, 3) := by decide +kernel
theorem dX4_join_69 : decode cX4_join 69 = .ok (.iload_n 2, 1) := by decide +kernel
theorem dX4_join_70 : decode cX4_join 70 = .ok (.ifCond .eq 7, 3) := by decide +kernel
theorem dX4_join_73 : decode cX4_join 73 = .ok (.iconst 1, 1) := by decide +kernel
theorem dX4_join_74 : decode cX4_join 74 = .ok (.goto 4, 3) := by decide +kernel
theorem dX4_join_77 : decode cX4_join 77 = .ok (.iconst 0, 1) := by decide +kernel
theorem dX4_join_78 : decode cX4_join 78 = .ok (.invokestatic 80, 3) := by decide +kernel
theorem dX4_join_81 : decode cX4_join 81 = .ok (.ireturn, 1) := by decide +kernel
theorem dX4_join_82 : decode cX4_join 82 = .ok (.iload_n 1, 1) := by decide +kernel
theorem dX4_join_83 : decode cX4_join 83 = .ok (.iload_n 2, 1) := by decide +kernel
theorem dX4_join_84 : decode cX4_join 84 = .ok (.if_icmp .ge 7, 3) := by decide +kernel
theorem dX4_join_87 : decode cX4_join 87 = .ok (.iconst 1, 1) := by decide +kernel
theorem dX4_join_88 : decode cX4_join 88 = .ok (.goto 4, 3) := by decide +kernel
theorem dX4_join_91 : decode cX4_join 91 = .ok (.iconst 0, 1) := by decide +kernel
theorem dX4_join_92 : decode cX4_join 92 = .ok (.invokestatic 80, 3) := by decide +kernel
theorem dX4_join_95 : decode cX4_join 95 = .ok (.ireturn, 1) := by decide +kernel
theorem dX4_join_96 : decode cX4_join 96 = .ok (.iload_n 1, 1) := by decide +kernel
theorem dX4_join_97 : decode cX4_join 97 = .ok (.iload_n 2, 1) := by decide +kernel
theorem dX4_join_98 : decode cX4_join 98 = .ok (.if_icmp .ne 7, 3) := by decide +kernel
theorem dX4_join_101 : decode cX4_join 101 = .ok (.iconst 1, 1) := by decide +kernel
theorem dX4_join_102 : decode cX4_join 102 = .ok (.goto 4, 3) := by decide +kernel
theorem dX4_join_105 : decode cX4_join 105 = .ok (.iconst 0, 1) := by decide +kernel
theorem dX4_join_106 : decode cX4_join 106 = .ok (.invokestatic 80, 3) := by decide +kernel
theorem dX4_join_109 : decode cX4_join 109 = .ok (.ireturn, 1) := by decide +kernel
theorem dX4_join_110 : decode cX4_join 110 = .ok (.iload_n 1, 1) := by decide +kernel
theorem dX4_join_111 : decode cX4_join 111 = .ok (.iload_n 2, 1) := by decide +kernel
theorem dX4_join_112 : decode cX4_join 112 = .ok (.iadd, 1) := by decide +kernel
theorem dX4_join_113 : decode cX4_join 113 = .ok (.ireturn, 1) := by decide +kernel
theorem dX4_join_114 : decode cX4_join 114 = .ok (.iload_n 1, 1) := by decide +kernel
theorem dX4_join_115 : decode cX4_join 115 = .ok (.iload_n 2, 1) := by decide +kernel
theorem dX4_join_116 : decode cX4_join 116 = .ok (.isub, 1) := by decide +kernel
theorem dX4_join_117 : decode cX4_join 117 = .ok (.ireturn, 1) := by decide +kernel
theorem dX4_join_118 : decode cX4_join 118 = .ok (.iload_n 1, 1) := by decide +kernel
theorem dX4_join_119 : decode cX4_join 119 = .ok (.iload_n 2, 1) := by decide +kernel
theorem dX4_join_120 : decode cX4_join 120 = .ok (.imul, 1) := by decide +kernel
theorem dX4_join_121 : decode cX4_join 121 = .ok (.ireturn, 1) := by decide +kernel
theorem dX4_join_122 : decode cX4_join 122 = .ok (.iload_n 2, 1) := by decide +kernel
theorem dX4_join_123 : decode cX4_join 123 = .ok (.ifCond .ne 7, 3) := by decide +kernel
theorem dX4_join_126 : decode cX4_join 126 = .ok (.iconst 0, 1) := by decide +kernel
theorem dX4_join_127 : decode cX4_join 127 = .ok (.goto 6, 3) := by decide +kernel
theorem dX4_join_130 : decode cX4_join 130 = .ok (.iload_n 1, 1) := by decide +kernel
theorem dX4_join_131 : decode cX4_join 131 = .ok (.iload_n 2, 1) := by decide +kernel
theorem dX4_join_132 : decode cX4_join 132 = .ok (.idiv, 1) := by decide +kernel
theorem dX4_join_133 : decode cX4_join 133 = .ok (.ireturn, 1) := by decide +kernel
theorem dX4_truth_0 : decode cX4_truth 0 = .ok (.iload_n 0, 1) := by decide +kernel
theorem dX4_truth_1 : decode cX4_truth 1 = .ok (.ifCond .eq 7, 3) := by decide +kernel
theorem dX4_truth_4 : decode cX4_truth 4 = .ok (.iconst 1, 1) := by decide +kernel
theorem dX4_truth_5 : decode cX4_truth 5 = .ok (.goto 4, 3) := by decide +kernel
theorem dX4_truth_8 : decode cX4_truth 8 = .ok (.iconst 0, 1) := by decide +kernel
theorem dX4_truth_9 : decode cX4_truth 9 = .ok (.ireturn, 1) := by decide +kernel
theorem dX5_init_0 : decode cX5_init 0 = .ok (.aload_n 0, 1) := by decide +kernel
theorem dX5_init_1 : decode cX5_init 1 = .ok (.invokespecial 1, 3) := by decide +kernel
theorem dX5_init_4 : decode cX5_init 4 = .ok (.aload_n 0, 1) := by decide +kernel
theorem dX5_init_5 : decode cX5_init 5 = .ok (.iload_n 1, 1) := by decide +kernel
theorem dX5_init_6 : decode cX5_init 6 = .ok (.putfield 7, 3) := by decide +kernel
theorem dX5_init_9 : decode cX5_init 9 = .ok (.aload_n 0, 1) := by decide +kernel
theorem dX5_init_10 : decode cX5_init 10 = .ok (.iload_n 2, 1) := by decide +kernel
theorem dX5_init_11 : decode cX5_init 11 = .ok (.putfield 13, 3) := by decide +kernel
theorem dX5_init_14 : decode cX5_init 14 = .ok (.return_, 1) := by decide +kernel
theorem dX6_init_0 : decode cX6_init 0 = .ok (.aload_n 0, 1) := by decide +kernel
theorem dX6_init_1 : decode cX6_init 1 = .ok (.invokespecial 1, 3) := by decide +kernel
theorem dX6_init_4 : decode cX6_init 4 = .ok (.aload_n 0, 1) := by decide +kernel
theorem dX6_init_5 : decode cX6_init 5 = .ok (.iload_n 1, 1) := by decide +kernel
theorem dX6_init_6 : decode cX6_init 6 = .ok (.putfield 7, 3) := by decide +kernel
theorem dX6_init_9 : decode cX6_init 9 = .ok (.aload_n 0, 1) := by decide +kernel
theorem dX6_init_10 : decode cX6_init 10 = .ok (.iload_n 2, 1) := by decide +kernel
theorem dX6_init_11 : decode cX6_init 11 = .ok (.putfield 13, 3) := by decide +kernel
theorem dX6_init_14 : decode cX6_init 14 = .ok (.aload_n 0, 1) := by decide +kernel
theorem dX6_init_15 : decode cX6_init 15 = .ok (.iload_n 3, 1) := by decide +kernel
theorem dX6_init_16 : decode cX6_init 16 = .ok (.putfield 16, 3) := by decide +kernel
theorem dX6_init_19 : decode cX6_init 19 = .ok (.return_, 1) := by decide +kernel
theorem dX7_init_0 : decode cX7_init 0 = .ok (.aload_n 0, 1) := by decide +kernel
theorem dX7_init_1 : decode cX7_init 1 = .ok (.invokespecial 3, 3) := by decide +kernel
theorem dX7_init_4 : decode cX7_init 4 = .ok (.aload_n 0, 1) := by decide +kernel
theorem dX7_init_5 : decode cX7_init 5 = .ok (.iconst 0, 1) := by decide +kernel
theorem dX7_init_6 : decode cX7_init 6 = .ok (.newarray .int, 2) := by decide +kernel
theorem dX7_init_8 : decode cX7_init 8 = .ok (.putfield 9, 3) := by decide +kernel
theorem dX7_init_11 : decode cX7_init 11 = .ok (.aload_n 0, 1) := by decide +kernel
theorem dX7_init_12 : decode cX7_init 12 = .ok (.iconst 0, 1) := by decide +kernel
theorem dX7_init_13 : decode cX7_init 13 = .ok (.putfield 15, 3) := by decide +kernel
theorem dX7_init_16 : decode cX7_init 16 = .ok (.aload_n 0, 1) := by decide +kernel
theorem dX7_init_17 : decode cX7_init 17 = .ok (.iconst 0, 1) := by decide +kernel
theorem dX7_init_18 : decode cX7_init 18 = .ok (.putfield 19, 3) := by decide +kernel
theorem dX7_init_21 : decode cX7_init 21 = .ok (.aload_n 0, 1) := by decide +kernel
theorem dX7_init_22 : decode cX7_init 22 = .ok (.new 22, 3) := by decide +kernel
theorem dX7_init_25 : decode cX7_init 25 = .ok (.dup, 1) := by decide +kernel
theorem dX7_init_26 : decode cX7_init 26 = .ok (.invokespecial 24, 3) := by decide +kernel
theorem dX7_init_29 : decode cX7_init 29 = .ok (.putfield 25, 3) := by decide +kernel
theorem dX7_init_32 : decode cX7_init 32 = .ok (.aload_n 0, 1) := by decide +kernel
theorem dX7_init_33 : decode cX7_init 33 = .ok (.iconst 0, 1) := by decide +kernel
theorem dX7_init_34 : decode cX7_init 34 = .ok (.putfield 29, 3) := by decide +kernel
theorem dX7_init_37 : decode cX7_init 37 = .ok (.aload_n 0, 1) := by decide +kernel
theorem dX7_init_38 : decode cX7_init 38 = .ok (.iconst (-1), 1) := by decide +kernel
theorem dX7_init_39 : decode cX7_init 39 = .ok (.putfield 32, 3) := by decide +kernel
theorem dX7_init_42 : decode cX7_init 42 = .ok (.aload_n 0, 1) := by decide +kernel
theorem dX7_init_43 : decode cX7_init 43 = .ok (.iconst 0, 1) := by decide +kernel
theorem dX7_init_44 : decode cX7_init 44 = .ok (.putfield 35, 3) := by decide +kernel
theorem dX7_init_47 : decode cX7_init 47 = .ok (.aload_n 0, 1) := by decide +kernel
theorem dX7_init_48 : decode cX7_init 48 = .ok (.iconst 0, 1) := by decide +kernel
theorem dX7_init_49 : decode cX7_init 49 = .ok (.putfield 38, 3) := by decide +kernel
theorem dX7_init_52 : decode cX7_init 52 = .ok (.aload_n 0, 1) := by decide +kernel
theorem dX7_init_53 : decode cX7_init 53 = .ok (.iconst 0, 1) := by decide +kernel
theorem dX7_init_54 : decode cX7_init 54 = .ok (.putfield 41, 3) := by decide +kernel
theorem dX7_init_57 : decode cX7_init 57 = .ok (.aload_n 0, 1) := by decide +kernel
theorem dX7_init_58 : decode cX7_init 58 = .ok (.iconst 0, 1) := by decide +kernel
theorem dX7_init_59 : decode cX7_init 59 = .ok (.putfield 44, 3) := by decide +kernel
theorem dX7_init_62 : decode cX7_init 62 = .ok (.aload_n 0, 1) := by decide +kernel
theorem dX7_init_63 : decode cX7_init 63 = .ok (.iconst 0, 1) := by decide +kernel
theorem dX7_init_64 : decode cX7_init 64 = .ok (.putfield 47, 3) := by decide +kernel
theorem dX7_init_67 : decode cX7_init 67 = .ok (.return_, 1) := by decide +kernel
theorem dX7_read_0 : decode cX7_read 0 = .ok (.aload_n 0, 1) := by decide +kernel
theorem dX7_read_1 : decode cX7_read 1 = .ok (.aload_n 1, 1) := by decide +kernel
theorem dX7_read_2 : decode cX7_read 2 = .ok (.putfield 9, 3) := by decide +kernel
theorem dX7_read_5 : decode cX7_read 5 = .ok (.aload_n 0, 1) := by decide +kernel
theorem dX7_read_6 : decode cX7_read 6 = .ok (.iload_n 2, 1) := by decide +kernel
theorem dX7_read_7 : decode cX7_read 7 = .ok (.aload_n 1, 1) := by decide +kernel
theorem dX7_read_8 : decode cX7_read 8 = .ok (.arraylength, 1) := by decide +kernel
theorem dX7_read_9 : decode cX7_read 9 = .ok (.invokestatic 50, 3) := by decide +kernel
theorem dX7_read_12 : decode cX7_read 12 = .ok (.putfield 15, 3) := by decide +kernel
theorem dX7_read_15 : decode cX7_read 15 = .ok (.aload_n 0, 1) := by decide +kernel
theorem dX7_read_16 : decode cX7_read 16 = .ok (.iload_n 3, 1) := by decide +kernel
theorem dX7_read_17 : decode cX7_read 17 = .ok (.putfield 19, 3) := by decide +kernel
theorem dX7_read_20 : decode cX7_read 20 = .ok (.aload_n 0, 1) := by decide +kernel
theorem dX7_read_21 : decode cX7_read 21 = .ok (.aload 4, 2) := by decide +kernel
theorem dX7_read_23 : decode cX7_read 23 = .ok (.putfield 25, 3) := by decide +kernel
theorem dX7_read_26 : decode cX7_read 26 = .ok (.aload_n 0, 1) := by decide +kernel
theorem dX7_read_27 : decode cX7_read 27 = .ok (.getfield 25, 3) := by decide +kernel
theorem dX7_read_30 : decode cX7_read 30 = .ok (.invokevirtual 56, 3) := by decide +kernel
theorem dX7_read_33 : decode cX7_read 33 = .ok (.aload_n 0, 1) := by decide +kernel
theorem dX7_read_34 : decode cX7_read 34 = .ok (.iconst 0, 1) := by decide +kernel
theorem dX7_read_35 : decode cX7_read 35 = .ok (.putfield 29, 3) := by decide +kernel
theorem dX7_read_38 : decode cX7_read 38 = .ok (.aload_n 0, 1) := by decide +kernel
theorem dX7_read_39 : decode cX7_read 39 = .ok (.iconst (-1), 1) := by decide +kernel
theorem dX7_read_40 : decode cX7_read 40 = .ok (.putfield 32, 3) := by decide +kernel
theorem dX7_read_43 : decode cX7_read 43 = .ok (.aload_n 0, 1) := by decide +kernel
theorem dX7_read_44 : decode cX7_read 44 = .ok (.iconst 0, 1) := by decide +kernel
theorem dX7_read_45 : decode cX7_read 45 = .ok (.putfield 41, 3) := by decide +kernel
theorem dX7_read_48 : decode cX7_read 48 = .ok (.aload_n 0, 1) := by decide +kernel
theorem dX7_read_49 : decode cX7_read 49 = .ok (.invokevirtual 59, 3) := by decide +kernel
theorem dX7_read_52 : decode cX7_read 52 = .ok (.iconst 0, 1) := by decide +kernel
theorem dX7_read_53 : decode cX7_read 53 = .ok (.istore 5, 2) := by decide +kernel
theorem dX7_read_55 : decode cX7_read 55 = .ok (.iload 5, 2) := by decide +kernel
theorem dX7_read_57 : decode cX7_read 57 = .ok (.bipush 16, 2) := by decide +kernel
theorem dX7_read_59 : decode cX7_read 59 = .ok (.if_icmp .gt 29, 3) := by decide +kernel
theorem dX7_read_62 : decode cX7_read 62 = .ok (.aload_n 0, 1) := by decide +kernel
theorem dX7_read_63 : decode cX7_read 63 = .ok (.getfield 29, 3) := by decide +kernel
theorem dX7_read_66 : decode cX7_read 66 = .ok (.ifCond .ne 22, 3) := by decide +kernel
theorem dX7_read_69 : decode cX7_read 69 = .ok (.aload_n 0, 1) := by decide +kernel
theorem dX7_read_70 : decode cX7_read 70 = .ok (.getfield 35, 3) := by decide +kernel
theorem dX7_read_73 : decode cX7_read 73 = .ok (.ifCond .eq 15, 3) := by decide +kernel
theorem dX7_read_76 : decode cX7_read 76 = .ok (.aload_n 0, 1) := by decide +kernel
theorem dX7_read_77 : decode cX7_read 77 = .ok (.iload 5, 2) := by decide +kernel
theorem dX7_read_79 : decode cX7_read 79 = .ok (.invokevirtual 62, 3) := by decide +kernel
theorem dX7_read_82 : decode cX7_read 82 = .ok (.iinc 5 1, 3) := by decide +kernel
theorem dX7_read_85 : decode cX7_read 85 = .ok (.goto (-30), 3) := by decide +kernel
theorem dX7_read_88 : decode cX7_read 88 = .ok (.aload_n 0, 1) := by decide +kernel
theorem dX7_read_89 : decode cX7_read 89 = .ok (.getfield 29, 3) := by decide +kernel
theorem dX7_read_92 : decode cX7_read 92 = .ok (.ireturn, 1) := by decide +kernel
theorem dX7_refuse_0 : decode cX7_refuse 0 = .ok (.aload_n 0, 1) := by decide +kernel
theorem dX7_refuse_1 : decode cX7_refuse 1 = .ok (.getfield 29, 3) := by decide +kernel
theorem dX7_refuse_4 : decode cX7_refuse 4 = .ok (.ifCond .ne 16, 3) := by decide +kernel
theorem dX7_refuse_7 : decode cX7_refuse 7 = .ok (.aload_n 0, 1) := by decide +kernel
theorem dX7_refuse_8 : decode cX7_refuse 8 = .ok (.iload_n 1, 1) := by decide +kernel
theorem dX7_refuse_9 : decode cX7_refuse 9 = .ok (.putfield 29, 3) := by decide +kernel
theorem dX7_refuse_12 : decode cX7_refuse 12 = .ok (.aload_n 0, 1) := by decide +kernel
theorem dX7_refuse_13 : decode cX7_refuse 13 = .ok (.aload_n 0, 1) := by decide +kernel
theorem dX7_refuse_14 : decode cX7_refuse 14 = .ok (.getfield 38, 3) := by decide +kernel
theorem dX7_refuse_17 : decode cX7_refuse 17 = .ok (.putfield 32, 3) := by decide +kernel
theorem dX7_refuse_20 : decode cX7_refuse 20 = .ok (.return_, 1) := by decide +kernel
theorem dX7_next_0 : decode cX7_next 0 = .ok (.aload_n 0, 1) := by decide +kernel
theorem dX7_next_1 : decode cX7_next 1 = .ok (.getfield 41, 3) := by decide +kernel
theorem dX7_next_4 : decode cX7_next 4 = .ok (.aload_n 0, 1) := by decide +kernel
theorem dX7_next_5 : decode cX7_next 5 = .ok (.getfield 15, 3) := by decide +kernel
theorem dX7_next_8 : decode cX7_next 8 = .ok (.if_icmp .ge 44, 3) := by decide +kernel
theorem dX7_next_11 : decode cX7_next 11 = .ok (.aload_n 0, 1) := by decide +kernel
theorem dX7_next_12 : decode cX7_next 12 = .ok (.getfield 9, 3) := by decide +kernel
theorem dX7_next_15 : decode cX7_next 15 = .ok (.aload_n 0, 1) := by decide +kernel
theorem dX7_next_16 : decode cX7_next 16 = .ok (.getfield 41, 3) := by decide +kernel
theorem dX7_next_19 : decode cX7_next 19 = .ok (.iaload, 1) := by decide +kernel
theorem dX7_next_20 : decode cX7_next 20 = .ok (.bipush 32, 2) := by decide +kernel
theorem dX7_next_22 : decode cX7_next 22 = .ok (.if_icmp .eq 17, 3) := by decide +kernel
theorem dX7_next_25 : decode cX7_next 25 = .ok (.aload_n 0, 1) := by decide +kernel
theorem dX7_next_26 : decode cX7_next 26 = .ok (.getfield 9, 3) := by decide +kernel
theorem dX7_next_29 : decode cX7_next 29 = .ok (.aload_n 0, 1) := by decide +kernel
theorem dX7_next_30 : decode cX7_next 30 = .ok (.getfield 41, 3) := by decide +kernel
theorem dX7_next_33 : decode cX7_next 33 = .ok (.iaload, 1) := by decide +kernel
theorem dX7_next_34 : decode cX7_next 34 = .ok (.bipush 10, 2) := by decide +kernel
theorem dX7_next_36 : decode cX7_next 36 = .ok (.if_icmp .ne 16, 3) := by decide +kernel
theorem dX7_next_39 : decode cX7_next 39 = .ok (.aload_n 0, 1) := by decide +kernel
theorem dX7_next_40 : decode cX7_next 40 = .ok (.dup, 1) := by decide +kernel
theorem dX7_next_41 : decode cX7_next 41 = .ok (.getfield 41, 3) := by decide +kernel
theorem dX7_next_44 : decode cX7_next 44 = .ok (.iconst 1, 1) := by decide +kernel
theorem dX7_next_45 : decode cX7_next 45 = .ok (.iadd, 1) := by decide +kernel
theorem dX7_next_46 : decode cX7_next 46 = .ok (.putfield 41, 3) := by decide +kernel
theorem dX7_next_49 : decode cX7_next 49 = .ok (.goto (-49), 3) := by decide +kernel
theorem dX7_next_52 : decode cX7_next 52 = .ok (.aload_n 0, 1) := by decide +kernel
theorem dX7_next_53 : decode cX7_next 53 = .ok (.aload_n 0, 1) := by decide +kernel
theorem dX7_next_54 : decode cX7_next 54 = .ok (.getfield 41, 3) := by decide +kernel
theorem dX7_next_57 : decode cX7_next 57 = .ok (.putfield 38, 3) := by decide +kernel
theorem dX7_next_60 : decode cX7_next 60 = .ok (.aload_n 0, 1) := by decide +kernel
theorem dX7_next_61 : decode cX7_next 61 = .ok (.iconst 0, 1) := by decide +kernel
theorem dX7_next_62 : decode cX7_next 62 = .ok (.putfield 44, 3) := by decide +kernel
theorem dX7_next_65 : decode cX7_next 65 = .ok (.aload_n 0, 1) := by decide +kernel
theorem dX7_next_66 : decode cX7_next 66 = .ok (.iconst 0, 1) := by decide +kernel
theorem dX7_next_67 : decode cX7_next 67 = .ok (.putfield 47, 3) := by decide +kernel
theorem dX7_next_70 : decode cX7_next 70 = .ok (.aload_n 0, 1) := by decide +kernel
theorem dX7_next_71 : decode cX7_next 71 = .ok (.getfield 41, 3) := by decide +kernel
theorem dX7_next_74 : decode cX7_next 74 = .ok (.aload_n 0, 1) := by decide +kernel
theorem dX7_next_75 : decode cX7_next 75 = .ok (.getfield 15, 3) := by decide +kernel
theorem dX7_next_78 : decode cX7_next 78 = .ok (.if_icmp .lt 11, 3) := by decide +kernel
theorem dX7_next_81 : decode cX7_next 81 = .ok (.aload_n 0, 1) := by decide +kernel
theorem dX7_next_82 : decode cX7_next 82 = .ok (.iconst 0, 1) := by decide +kernel
theorem dX7_next_83 : decode cX7_next 83 = .ok (.putfield 35, 3) := by decide +kernel
theorem dX7_next_86 : decode cX7_next 86 = .ok (.goto 268, 3) := by decide +kernel
theorem dX7_next_89 : decode cX7_next 89 = .ok (.aload_n 0, 1) := by decide +kernel
theorem dX7_next_90 : decode cX7_next 90 = .ok (.getfield 9, 3) := by decide +kernel
theorem dX7_next_93 : decode cX7_next 93 = .ok (.aload_n 0, 1) := by decide +kernel
theorem dX7_next_94 : decode cX7_next 94 = .ok (.getfield 41, 3) := by decide +kernel
theorem dX7_next_97 : decode cX7_next 97 = .ok (.iaload, 1) := by decide +kernel
theorem dX7_next_98 : decode cX7_next 98 = .ok (.bipush 97, 2) := by decide +kernel
theorem dX7_next_100 : decode cX7_next 100 = .ok (.if_icmp .lt 74, 3) := by decide +kernel
theorem dX7_next_103 : decode cX7_next 103 = .ok (.aload_n 0, 1) := by decide +kernel
theorem dX7_next_104 : decode cX7_next 104 = .ok (.getfield 9, 3) := by decide +kernel
theorem dX7_next_107 : decode cX7_next 107 = .ok (.aload_n 0, 1) := by decide +kernel
theorem dX7_next_108 : decode cX7_next 108 = .ok (.getfield 41, 3) := by decide +kernel
theorem dX7_next_111 : decode cX7_next 111 = .ok (.iaload, 1) := by decide +kernel
theorem dX7_next_112 : decode cX7_next 112 = .ok (.bipush 122, 2) := by decide +kernel
theorem dX7_next_114 : decode cX7_next 114 = .ok (.if_icmp .gt 60, 3) := by decide +kernel
theorem dX7_next_117 : decode cX7_next 117 = .ok (.aload_n 0, 1) := by decide +kernel
theorem dX7_next_118 : decode cX7_next 118 = .ok (.iconst 2, 1) := by decide +kernel
theorem dX7_next_119 : decode cX7_next 119 = .ok (.putfield 35, 3) := by decide +kernel
theorem dX7_next_122 : decode cX7_next 122 = .ok (.aload_n 0, 1) := by decide +kernel
theorem dX7_next_123 : decode cX7_next 123 = .ok (.getfield 41, 3) := by decide +kernel
theorem dX7_next_126 : decode cX7_next 126 = .ok (.aload_n 0, 1) := by decide +kernel
theorem dX7_next_127 : decode cX7_next 127 = .ok (.getfield 15, 3) := by decide +kernel
theorem dX7_next_130 : decode cX7_next 130 = .ok (.if_icmp .ge 224, 3) := by decide +kernel
theorem dX7_next_133 : decode cX7_next 133 = .ok (.aload_n 0, 1) := by decide +kernel
theorem dX7_next_134 : decode cX7_next 134 = .ok (.getfield 9, 3) := by decide +kernel
theorem dX7_next_137 : decode cX7_next 137 = .ok (.aload_n 0, 1) := by decide +kernel
theorem dX7_next_138 : decode cX7_next 138 = .ok (.getfield 41, 3) := by decide +kernel
theorem dX7_next_141 : decode cX7_next 141 = .ok (.iaload, 1) := by decide +kernel
theorem dX7_next_142 : decode cX7_next 142 = .ok (.bipush 97, 2) := by decide +kernel
theorem dX7_next_144 : decode cX7_next 144 = .ok (.if_icmp .lt 210, 3) := by decide +kernel
theorem dX7_next_147 : decode cX7_next 147 = .ok (.aload_n 0, 1) := by decide +kernel
theorem dX7_next_148 : decode cX7_next 148 = .ok (.getfield 9, 3) := by decide +kernel
theorem dX7_next_151 : decode cX7_next 151 = .ok (.aload_n 0, 1) := by decide +kernel
theorem dX7_next_152 : decode cX7_next 152 = .ok (.getfield 41, 3) := by decide +kernel
theorem dX7_next_155 : decode cX7_next 155 = .ok (.iaload, 1) := by decide +kernel
theorem dX7_next_156 : decode cX7_next 156 = .ok (.bipush 122, 2) := by decide +kernel
theorem dX7_next_158 : decode cX7_next 158 = .ok (.if_icmp .gt 196, 3) := by decide +kernel
theorem dX7_next_161 : decode cX7_next 161 = .ok (.aload_n 0, 1) := by decide +kernel
theorem dX7_next_162 : decode cX7_next 162 = .ok (.dup, 1) := by decide +kernel
theorem dX7_next_163 : decode cX7_next 163 = .ok (.getfield 41, 3) := by decide +kernel
theorem dX7_next_166 : decode cX7_next 166 = .ok (.iconst 1, 1) := by decide +kernel
theorem dX7_next_167 : decode cX7_next 167 = .ok (.iadd, 1) := by decide +kernel
theorem dX7_next_168 : decode cX7_next 168 = .ok (.putfield 41, 3) := by decide +kernel
theorem dX7_next_171 : decode cX7_next 171 = .ok (.goto (-49), 3) := by decide +kernel
theorem dX7_next_174 : decode cX7_next 174 = .ok (.aload_n 0, 1) := by decide +kernel
theorem dX7_next_175 : decode cX7_next 175 = .ok (.getfield 9, 3) := by decide +kernel
theorem dX7_next_178 : decode cX7_next 178 = .ok (.aload_n 0, 1) := by decide +kernel
theorem dX7_next_179 : decode cX7_next 179 = .ok (.getfield 41, 3) := by decide +kernel
theorem dX7_next_182 : decode cX7_next 182 = .ok (.iaload, 1) := by decide +kernel
theorem dX7_next_183 : decode cX7_next 183 = .ok (.bipush 48, 2) := by decide +kernel
theorem dX7_next_185 : decode cX7_next 185 = .ok (.if_icmp .lt 124, 3) := by decide +kernel
theorem dX7_next_188 : decode cX7_next 188 = .ok (.aload_n 0, 1) := by decide +kernel
theorem dX7_next_189 : decode cX7_next 189 = .ok (.getfield 9, 3) := by decide +kernel
theorem dX7_next_192 : decode cX7_next 192 = .ok (.aload_n 0, 1) := by decide +kernel
theorem dX7_next_193 : decode cX7_next 193 = .ok (.getfield 41, 3) := by decide +kernel
theorem dX7_next_196 : decode cX7_next 196 = .ok (.iaload, 1) := by decide +kernel
theorem dX7_next_197 : decode cX7_next 197 = .ok (.bipush 57, 2) := by decide +kernel
theorem dX7_next_199 : decode cX7_next 199 = .ok (.if_icmp .gt 110, 3) := by decide +kernel
theorem dX7_next_202 : decode cX7_next 202 = .ok (.aload_n 0, 1) := by decide +kernel
theorem dX7_next_203 : decode cX7_next 203 = .ok (.iconst 3, 1) := by decide +kernel
theorem dX7_next_204 : decode cX7_next 204 = .ok (.putfield 35, 3) := by decide +kernel
theorem dX7_next_207 : decode cX7_next 207 = .ok (.aload_n 0, 1) := by decide +kernel
theorem dX7_next_208 : decode cX7_next 208 = .ok (.getfield 41, 3) := by decide +kernel
theorem dX7_next_211 : decode cX7_next 211 = .ok (.aload_n 0, 1) := by decide +kernel
theorem dX7_next_212 : decode cX7_next 212 = .ok (.getfield 15, 3) := by decide +kernel
theorem dX7_next_215 : decode cX7_next 215 = .ok (.if_icmp .ge 139, 3) := by decide +kernel
theorem dX7_next_218 : decode cX7_next 218 = .ok (.aload_n 0, 1) := by decide +kernel
theorem dX7_next_219 : decode cX7_next 219 = .ok (.getfield 9, 3) := by decide +kernel
theorem dX7_next_222 : decode cX7_next 222 = .ok (.aload_n 0, 1) := by decide +kernel
theorem dX7_next_223 : decode cX7_next 223 = .ok (.getfield 41, 3) := by decide +kernel
theorem dX7_next_226 : decode cX7_next 226 = .ok (.iaload, 1) := by decide +kernel
theorem dX7_next_227 : decode cX7_next 227 = .ok (.bipush 48, 2) := by decide +kernel
theorem dX7_next_229 : decode cX7_next 229 = .ok (.if_icmp .lt 125, 3) := by decide +kernel
theorem dX7_next_232 : decode cX7_next 232 = .ok (.aload_n 0, 1) := by decide +kernel
theorem dX7_next_233 : decode cX7_next 233 = .ok (.getfield 9, 3) := by decide +kernel
theorem dX7_next_236 : decode cX7_next 236 = .ok (.aload_n 0, 1) := by decide +kernel
theorem dX7_next_237 : decode cX7_next 237 = .ok (.getfield 41, 3) := by decide +kernel
theorem dX7_next_240 : decode cX7_next 240 = .ok (.iaload, 1) := by decide +kernel
theorem dX7_next_241 : decode cX7_next 241 = .ok (.bipush 57, 2) := by decide +kernel
theorem dX7_next_243 : decode cX7_next 243 = .ok (.if_icmp .gt 111, 3) := by decide +kernel
theorem dX7_next_246 : decode cX7_next 246 = .ok (.aload_n 0, 1) := by decide +kernel
theorem dX7_next_247 : decode cX7_next 247 = .ok (.aload_n 0, 1) := by decide +kernel
theorem dX7_next_248 : decode cX7_next 248 = .ok (.getfield 47, 3) := by decide +kernel
theorem dX7_next_251 : decode cX7_next 251 = .ok (.bipush 8, 2) := by decide +kernel
theorem dX7_next_253 : decode cX7_next 253 = .ok (.if_icmp .ge 26, 3) := by decide +kernel
theorem dX7_next_256 : decode cX7_next 256 = .ok (.aload_n 0, 1) := by decide +kernel
theorem dX7_next_257 : decode cX7_next 257 = .ok (.getfield 44, 3) := by decide +kernel
theorem dX7_next_260 : decode cX7_next 260 = .ok (.bipush 10, 2) := by decide +kernel
theorem dX7_next_262 : decode cX7_next 262 = .ok (.imul, 1) := by decide +kernel
theorem dX7_next_263 : decode cX7_next 263 = .ok (.aload_n 0, 1) := by decide +kernel
theorem dX7_next_264 : decode cX7_next 264 = .ok (.getfield 9, 3) := by decide +kernel
theorem dX7_next_267 : decode cX7_next 267 = .ok (.aload_n 0, 1) := by decide +kernel
theorem dX7_next_268 : decode cX7_next 268 = .ok (.getfield 41, 3) := by decide +kernel
theorem dX7_next_271 : decode cX7_next 271 = .ok (.iaload, 1) := by decide +kernel
theorem dX7_next_272 : decode cX7_next 272 = .ok (.iadd, 1) := by decide +kernel
theorem dX7_next_273 : decode cX7_next 273 = .ok (.bipush 48, 2) := by decide +kernel
theorem dX7_next_275 : decode cX7_next 275 = .ok (.isub, 1) := by decide +kernel
theorem dX7_next_276 : decode cX7_next 276 = .ok (.goto 7, 3) := by decide +kernel
theorem dX7_next_279 : decode cX7_next 279 = .ok (.aload_n 0, 1) := by decide +kernel
theorem dX7_next_280 : decode cX7_next 280 = .ok (.getfield 44, 3) := by decide +kernel
theorem dX7_next_283 : decode cX7_next 283 = .ok (.putfield 44, 3) := by decide +kernel
theorem dX7_next_286 : decode cX7_next 286 = .ok (.aload_n 0, 1) := by decide +kernel
theorem dX7_next_287 : decode cX7_next 287 = .ok (.dup, 1) := by decide +kernel
theorem dX7_next_288 : decode cX7_next 288 = .ok (.getfield 47, 3) := by decide +kernel
theorem dX7_next_291 : decode cX7_next 291 = .ok (.iconst 1, 1) := by decide +kernel
theorem dX7_next_292 : decode cX7_next 292 = .ok (.iadd, 1) := by decide +kernel
theorem dX7_next_293 : decode cX7_next 293 = .ok (.putfield 47, 3) := by decide +kernel
theorem dX7_next_296 : decode cX7_next 296 = .ok (.aload_n 0, 1) := by decide +kernel
theorem dX7_next_297 : decode cX7_next 297 = .ok (.dup, 1) := by decide +kernel
theorem dX7_next_298 : decode cX7_next 298 = .ok (.getfield 41, 3) := by decide +kernel
theorem dX7_next_301 : decode cX7_next 301 = .ok (.iconst 1, 1) := by decide +kernel
theorem dX7_next_302 : decode cX7_next 302 = .ok (.iadd, 1) := by decide +kernel
theorem dX7_next_303 : decode cX7_next 303 = .ok (.putfield 41, 3) := by decide +kernel
theorem dX7_next_306 : decode cX7_next 306 = .ok (.goto (-99), 3) := by decide +kernel
theorem dX7_next_309 : decode cX7_next 309 = .ok (.aload_n 0, 1) := by decide +kernel
theorem dX7_next_310 : decode cX7_next 310 = .ok (.ldc 66, 2) := by decide +kernel
theorem dX7_next_312 : decode cX7_next 312 = .ok (.aload_n 0, 1) := by decide +kernel
theorem dX7_next_313 : decode cX7_next 313 = .ok (.getfield 9, 3) := by decide +kernel
theorem dX7_next_316 : decode cX7_next 316 = .ok (.aload_n 0, 1) := by decide +kernel
theorem dX7_next_317 : decode cX7_next 317 = .ok (.getfield 41, 3) := by decide +kernel
theorem dX7_next_320 : decode cX7_next 320 = .ok (.iaload, 1) := by decide +kernel
theorem dX7_next_321 : decode cX7_next 321 = .ok (.i2c, 1) := by decide +kernel
theorem dX7_next_322 : decode cX7_next 322 = .ok (.invokevirtual 68, 3) := by decide +kernel
theorem dX7_next_325 : decode cX7_next 325 = .ok (.ifCond .lt 15, 3) := by decide +kernel
theorem dX7_next_328 : decode cX7_next 328 = .ok (.aload_n 0, 1) := by decide +kernel
theorem dX7_next_329 : decode cX7_next 329 = .ok (.getfield 9, 3) := by decide +kernel
theorem dX7_next_332 : decode cX7_next 332 = .ok (.aload_n 0, 1) := by decide +kernel
theorem dX7_next_333 : decode cX7_next 333 = .ok (.getfield 41, 3) := by decide +kernel
theorem dX7_next_336 : decode cX7_next 336 = .ok (.iaload, 1) := by decide +kernel
theorem dX7_next_337 : decode cX7_next 337 = .ok (.goto 4, 3) := by decide +kernel
theorem dX7_next_340 : decode cX7_next 340 = .ok (.iconst 1, 1) := by decide +kernel
theorem dX7_next_341 : decode cX7_next 341 = .ok (.putfield 35, 3) := by decide +kernel
theorem dX7_next_344 : decode cX7_next 344 = .ok (.aload_n 0, 1) := by decide +kernel
theorem dX7_next_345 : decode cX7_next 345 = .ok (.dup, 1) := by decide +kernel
theorem dX7_next_346 : decode cX7_next 346 = .ok (.getfield 41, 3) := by decide +kernel
theorem dX7_next_349 : decode cX7_next 349 = .ok (.iconst 1, 1) := by decide +kernel
theorem dX7_next_350 : decode cX7_next 350 = .ok (.iadd, 1) := by decide +kernel
theorem dX7_next_351 : decode cX7_next 351 = .ok (.putfield 41, 3) := by decide +kernel
theorem dX7_next_354 : decode cX7_next 354 = .ok (.return_, 1) := by decide +kernel
theorem dX7_wordAmong_0 : decode cX7_wordAmong 0 = .ok (.iconst 0, 1) := by decide +kernel
theorem dX7_wordAmong_1 : decode cX7_wordAmong 1 = .ok (.istore_n 2, 1) := by decide +kernel
theorem dX7_wordAmong_2 : decode cX7_wordAmong 2 = .ok (.iconst 0, 1) := by decide +kernel
theorem dX7_wordAmong_3 : decode cX7_wordAmong 3 = .ok (.istore_n 3, 1) := by decide +kernel
theorem dX7_wordAmong_4 : decode cX7_wordAmong 4 = .ok (.iconst 0, 1) := by decide +kernel
theorem dX7_wordAmong_5 : decode cX7_wordAmong 5 = .ok (.istore 4, 2) := by decide +kernel
theorem dX7_wordAmong_7 : decode cX7_wordAmong 7 = .ok (.iload 4, 2) := by decide +kernel
theorem dX7_wordAmong_9 : decode cX7_wordAmong 9 = .ok (.aload_n 1, 1) := by decide +kernel
theorem dX7_wordAmong_10 : decode cX7_wordAmong 10 = .ok (.invokevirtual 74, 3) := by decide +kernel
theorem dX7_wordAmong_13 : decode cX7_wordAmong 13 = .ok (.if_icmp .gt 58, 3) := by decide +kernel
theorem dX7_wordAmong_16 : decode cX7_wordAmong 16 = .ok (.aload_n 0, 1) := by decide +kernel
theorem dX7_wordAmong_17 : decode cX7_wordAmong 17 = .ok (.getfield 35, 3) := by decide +kernel
theorem dX7_wordAmong_20 : decode cX7_wordAmong 20 = .ok (.iconst 2, 1) := by decide +kernel
theorem dX7_wordAmong_21 : decode cX7_wordAmong 21 = .ok (.if_icmp .ne 50, 3) := by decide +kernel
theorem dX7_wordAmong_24 : decode cX7_wordAmong 24 = .ok (.iload 4, 2) := by decide +kernel
theorem dX7_wordAmong_26 : decode cX7_wordAmong 26 = .ok (.aload_n 1, 1) := by decide +kernel
theorem dX7_wordAmong_27 : decode cX7_wordAmong 27 = .ok (.invokevirtual 74, 3) := by decide +kernel
theorem dX7_wordAmong_30 : decode cX7_wordAmong 30 = .ok (.if_icmp .eq 14, 3) := by decide +kernel
theorem dX7_wordAmong_33 : decode cX7_wordAmong 33 = .ok (.aload_n 1, 1) := by decide +kernel
theorem dX7_wordAmong_34 : decode cX7_wordAmong 34 = .ok (.iload 4, 2) := by decide +kernel
theorem dX7_wordAmong_36 : decode cX7_wordAmong 36 = .ok (.invokevirtual 77, 3) := by decide +kernel
theorem dX7_wordAmong_39 : decode cX7_wordAmong 39 = .ok (.bipush 32, 2) := by decide +kernel
theorem dX7_wordAmong_41 : decode cX7_wordAmong 41 = .ok (.if_icmp .ne 24, 3) := by decide +kernel
theorem dX7_wordAmong_44 : decode cX7_wordAmong 44 = .ok (.aload_n 0, 1) := by decide +kernel
theorem dX7_wordAmong_45 : decode cX7_wordAmong 45 = .ok (.aload_n 1, 1) := by decide +kernel
theorem dX7_wordAmong_46 : decode cX7_wordAmong 46 = .ok (.iload_n 3, 1) := by decide +kernel
theorem dX7_wordAmong_47 : decode cX7_wordAmong 47 = .ok (.iload 4, 2) := by decide +kernel
theorem dX7_wordAmong_49 : decode cX7_wordAmong 49 = .ok (.invokevirtual 81, 3) := by decide +kernel
theorem dX7_wordAmong_52 : decode cX7_wordAmong 52 = .ok (.ifCond .eq 5, 3) := by decide +kernel
theorem dX7_wordAmong_55 : decode cX7_wordAmong 55 = .ok (.iload_n 2, 1) := by decide +kernel
theorem dX7_wordAmong_56 : decode cX7_wordAmong 56 = .ok (.ireturn, 1) := by decide +kernel
theorem dX7_wordAmong_57 : decode cX7_wordAmong 57 = .ok (.iinc 2 1, 3) := by decide +kernel
theorem dX7_wordAmong_60 : decode cX7_wordAmong 60 = .ok (.iload 4, 2) := by decide +kernel
theorem dX7_wordAmong_62 : decode cX7_wordAmong 62 = .ok (.iconst 1, 1) := by decide +kernel
theorem dX7_wordAmong_63 : decode cX7_wordAmong 63 = .ok (.iadd, 1) := by decide +kernel
theorem dX7_wordAmong_64 : decode cX7_wordAmong 64 = .ok (.istore_n 3, 1) := by decide +kernel
theorem dX7_wordAmong_65 : decode cX7_wordAmong 65 = .ok (.iinc 4 1, 3) := by decide +kernel
theorem dX7_wordAmong_68 : decode cX7_wordAmong 68 = .ok (.goto (-61), 3) := by decide +kernel
theorem dX7_wordAmong_71 : decode cX7_wordAmong 71 = .ok (.iconst (-1), 1) := by decide +kernel
theorem dX7_wordAmong_72 : decode cX7_wordAmong 72 = .ok (.ireturn, 1) := by decide +kernel
theorem dX7_isName_0 : decode cX7_isName 0 = .ok (.iload_n 3, 1) := by decide +kernel
theorem dX7_isName_1 : decode cX7_isName 1 = .ok (.iload_n 2, 1) := by decide +kernel
theorem dX7_isName_2 : decode cX7_isName 2 = .ok (.isub, 1) := by decide +kernel
theorem dX7_isName_3 : decode cX7_isName 3 = .ok (.aload_n 0, 1) := by decide +kernel
theorem dX7_isName_4 : decode cX7_isName 4 = .ok (.getfield 41, 3) := by decide +kernel
theorem dX7_isName_7 : decode cX7_isName 7 = .ok (.aload_n 0, 1) := by decide +kernel
theorem dX7_isName_8 : decode cX7_isName 8 = .ok (.getfield 38, 3) := by decide +kernel
theorem dX7_isName_11 : decode cX7_isName 11 = .ok (.isub, 1) := by decide +kernel
theorem dX7_isName_12 : decode cX7_isName 12 = .ok (.if_icmp .eq 5, 3) := by decide +kernel
theorem dX7_isName_15 : decode cX7_isName 15 = .ok (.iconst 0, 1) := by decide +kernel
theorem dX7_isName_16 : decode cX7_isName 16 = .ok (.ireturn, 1) := by decide +kernel
theorem dX7_isName_17 : decode cX7_isName 17 = .ok (.iload_n 2, 1) := by decide +kernel
theorem dX7_isName_18 : decode cX7_isName 18 = .ok (.istore 4, 2) := by decide +kernel
theorem dX7_isName_20 : decode cX7_isName 20 = .ok (.iload 4, 2) := by decide +kernel
theorem dX7_isName_22 : decode cX7_isName 22 = .ok (.iload_n 3, 1) := by decide +kernel
theorem dX7_isName_23 : decode cX7_isName 23 = .ok (.if_icmp .ge 34, 3) := by decide +kernel
theorem dX7_isName_26 : decode cX7_isName 26 = .ok (.aload_n 1, 1) := by decide +kernel
theorem dX7_isName_27 : decode cX7_isName 27 = .ok (.iload 4, 2) := by decide +kernel
theorem dX7_isName_29 : decode cX7_isName 29 = .ok (.invokevirtual 77, 3) := by decide +kernel
theorem dX7_isName_32 : decode cX7_isName 32 = .ok (.aload_n 0, 1) := by decide +kernel
theorem dX7_isName_33 : decode cX7_isName 33 = .ok (.getfield 9, 3) := by decide +kernel
theorem dX7_isName_36 : decode cX7_isName 36 = .ok (.aload_n 0, 1) := by decide +kernel
theorem dX7_isName_37 : decode cX7_isName 37 = .ok (.getfield 38, 3) := by decide +kernel
theorem dX7_isName_40 : decode cX7_isName 40 = .ok (.iload 4, 2) := by decide +kernel
theorem dX7_isName_42 : decode cX7_isName 42 = .ok (.iadd, 1) := by decide +kernel
theorem dX7_isName_43 : decode cX7_isName 43 = .ok (.iload_n 2, 1) := by decide +kernel
theorem dX7_isName_44 : decode cX7_isName 44 = .ok (.isub, 1) := by decide +kernel
theorem dX7_isName_45 : decode cX7_isName 45 = .ok (.iaload, 1) := by decide +kernel
theorem dX7_isName_46 : decode cX7_isName 46 = .ok (.if_icmp .eq 5, 3) := by decide +kernel
theorem dX7_isName_49 : decode cX7_isName 49 = .ok (.iconst 0, 1) := by decide +kernel
theorem dX7_isName_50 : decode cX7_isName 50 = .ok (.ireturn, 1) := by decide +kernel
theorem dX7_isName_51 : decode cX7_isName 51 = .ok (.iinc 4 1, 3) := by decide +kernel
theorem dX7_isName_54 : decode cX7_isName 54 = .ok (.goto (-34), 3) := by decide +kernel
theorem dX7_isName_57 : decode cX7_isName 57 = .ok (.iconst 1, 1) := by decide +kernel
theorem dX7_isName_58 : decode cX7_isName 58 = .ok (.ireturn, 1) := by decide +kernel
theorem dX7_isWord_0 : decode cX7_isWord 0 = .ok (.aload_n 0, 1) := by decide +kernel
theorem dX7_isWord_1 : decode cX7_isWord 1 = .ok (.aload_n 1, 1) := by decide +kernel
theorem dX7_isWord_2 : decode cX7_isWord 2 = .ok (.invokevirtual 85, 3) := by decide +kernel
theorem dX7_isWord_5 : decode cX7_isWord 5 = .ok (.ifCond .ne 7, 3) := by decide +kernel
theorem dX7_isWord_8 : decode cX7_isWord 8 = .ok (.iconst 1, 1) := by decide +kernel
theorem dX7_isWord_9 : decode cX7_isWord 9 = .ok (.goto 4, 3) := by decide +kernel
theorem dX7_isWord_12 : decode cX7_isWord 12 = .ok (.iconst 0, 1) := by decide +kernel
theorem dX7_isWord_13 : decode cX7_isWord 13 = .ok (.ireturn, 1) := by decide +kernel
theorem dX7_readClause_0 : decode cX7_readClause 0 = .ok (.aload_n 0, 1) := by decide +kernel
theorem dX7_readClause_1 : decode cX7_readClause 1 = .ok (.ldc 89, 2) := by decide +kernel
theorem dX7_readClause_3 : decode cX7_readClause 3 = .ok (.invokevirtual 85, 3) := by decide +kernel
theorem dX7_readClause_6 : decode cX7_readClause 6 = .ok (.istore_n 2, 1) := by decide +kernel
theorem dX7_readClause_7 : decode cX7_readClause 7 = .ok (.iload_n 2, 1) := by decide +kernel
theorem dX7_readClause_8 : decode cX7_readClause 8 = .ok (.iconst (-1), 1) := by decide +kernel
theorem dX7_readClause_9 : decode cX7_readClause 9 = .ok (.if_icmp .ne 9, 3) := by decide +kernel
theorem dX7_readClause_12 : decode cX7_readClause 12 = .ok (.aload_n 0, 1) := by decide +kernel
theorem dX7_readClause_13 : decode cX7_readClause 13 = .ok (.iconst 1, 1) := by decide +kernel
theorem dX7_readClause_14 : decode cX7_readClause 14 = .ok (.invokevirtual 91, 3) := by decide +kernel
theorem dX7_readClause_17 : decode cX7_readClause 17 = .ok (.return_, 1) := by decide +kernel
theorem dX7_readClause_18 : decode cX7_readClause 18 = .ok (.iload_n 1, 1) := by decide +kernel
theorem dX7_readClause_19 : decode cX7_readClause 19 = .ok (.bipush 16, 2) := by decide +kernel
theorem dX7_readClause_21 : decode cX7_readClause 21 = .ok (.if_icmp .lt 9, 3) := by decide +kernel
theorem dX7_readClause_24 : decode cX7_readClause 24 = .ok (.aload_n 0, 1) := by decide +kernel
theorem dX7_readClause_25 : decode cX7_readClause 25 = .ok (.iconst 2, 1) := by decide +kernel
theorem dX7_readClause_26 : decode cX7_readClause 26 = .ok (.invokevirtual 91, 3) := by decide +kernel
theorem dX7_readClause_29 : decode cX7_readClause 29 = .ok (.return_, 1) := by decide +kernel
theorem dX7_readClause_30 : decode cX7_readClause 30 = .ok (.aload_n 0, 1) := by decide +kernel
theorem dX7_readClause_31 : decode cX7_readClause 31 = .ok (.invokevirtual 59, 3) := by decide +kernel
theorem dX7_readClause_34 : decode cX7_readClause 34 = .ok (.iload_n 2, 1) := by decide +kernel
theorem dX7_readClause_35 : decode cX7_readClause 35 = .ok (.ifCond .ne 18, 3) := by decide +kernel
theorem dX7_readClause_38 : decode cX7_readClause 38 = .ok (.aload_n 0, 1) := by decide +kernel
theorem dX7_readClause_39 : decode cX7_readClause 39 = .ok (.getfield 25, 3) := by decide +kernel
theorem dX7_readClause_42 : decode cX7_readClause 42 = .ok (.invokevirtual 94, 3) := by decide +kernel
theorem dX7_readClause_45 : decode cX7_readClause 45 = .ok (.aload_n 0, 1) := by decide +kernel
theorem dX7_readClause_46 : decode cX7_readClause 46 = .ok (.iconst 0, 1) := by decide +kernel
theorem dX7_readClause_47 : decode cX7_readClause 47 = .ok (.invokevirtual 97, 3) := by decide +kernel
theorem dX7_readClause_50 : decode cX7_readClause 50 = .ok (.goto 48, 3) := by decide +kernel
theorem dX7_readClause_53 : decode cX7_readClause 53 = .ok (.iload_n 2, 1) := by decide +kernel
theorem dX7_readClause_54 : decode cX7_readClause 54 = .ok (.iconst 1, 1) := by decide +kernel
theorem dX7_readClause_55 : decode cX7_readClause 55 = .ok (.if_icmp .ne 38, 3) := by decide +kernel
theorem dX7_readClause_58 : decode cX7_readClause 58 = .ok (.aload_n 0, 1) := by decide +kernel
theorem dX7_readClause_59 : decode cX7_readClause 59 = .ok (.aload_n 0, 1) := by decide +kernel
theorem dX7_readClause_60 : decode cX7_readClause 60 = .ok (.getfield 25, 3) := by decide +kernel
theorem dX7_readClause_63 : decode cX7_readClause 63 = .ok (.invokevirtual 100, 3) := by decide +kernel
theorem dX7_readClause_66 : decode cX7_readClause 66 = .ok (.iconst 1, 1) := by decide +kernel
theorem dX7_readClause_67 : decode cX7_readClause 67 = .ok (.iadd, 1) := by decide +kernel
theorem dX7_readClause_68 : decode cX7_readClause 68 = .ok (.ldc 103, 2) := by decide +kernel
theorem dX7_readClause_70 : decode cX7_readClause 70 = .ok (.invokevirtual 104, 3) := by decide +kernel
theorem dX7_readClause_73 : decode cX7_readClause 73 = .ok (.istore_n 3, 1) := by decide +kernel
theorem dX7_readClause_74 : decode cX7_readClause 74 = .ok (.aload_n 0, 1) := by decide +kernel
theorem dX7_readClause_75 : decode cX7_readClause 75 = .ok (.getfield 25, 3) := by decide +kernel
theorem dX7_readClause_78 : decode cX7_readClause 78 = .ok (.iload_n 3, 1) := by decide +kernel
theorem dX7_readClause_79 : decode cX7_readClause 79 = .ok (.aload_n 0, 1) := by decide +kernel
theorem dX7_readClause_80 : decode cX7_readClause 80 = .ok (.iconst 0, 1) := by decide +kernel
theorem dX7_readClause_81 : decode cX7_readClause 81 = .ok (.sipush 10000, 3) := by decide +kernel
theorem dX7_readClause_84 : decode cX7_readClause 84 = .ok (.invokevirtual 104, 3) := by decide +kernel
theorem dX7_readClause_87 : decode cX7_readClause 87 = .ok (.invokevirtual 107, 3) := by decide +kernel
theorem dX7_readClause_90 : decode cX7_readClause 90 = .ok (.goto 8, 3) := by decide +kernel
theorem dX7_readClause_93 : decode cX7_readClause 93 = .ok (.aload_n 0, 1) := by decide +kernel
theorem dX7_readClause_94 : decode cX7_readClause 94 = .ok (.iload_n 2, 1) := by decide +kernel
theorem dX7_readClause_95 : decode cX7_readClause 95 = .ok (.invokevirtual 111, 3) := by decide +kernel
theorem dX7_readClause_98 : decode cX7_readClause 98 = .ok (.aload_n 0, 1) := by decide +kernel
theorem dX7_readClause_99 : decode cX7_readClause 99 = .ok (.bipush 59, 2) := by decide +kernel
theorem dX7_readClause_101 : decode cX7_readClause 101 = .ok (.invokevirtual 114, 3) := by decide +kernel
theorem dX7_readClause_104 : decode cX7_readClause 104 = .ok (.return_, 1) := by decide +kernel
theorem dX7_readSetting_0 : decode cX7_readSetting 0 = .ok (.iload_n 1, 1) := by decide +kernel
theorem dX7_readSetting_1 : decode cX7_readSetting 1 = .ok (.tableswitch 122 2 6 #[35, 53, 70, 87, 105], 35) := by decide +kernel
theorem dX7_readSetting_36 : decode cX7_readSetting 36 = .ok (.aload_n 0, 1) := by decide +kernel
theorem dX7_readSetting_37 : decode cX7_readSetting 37 = .ok (.getfield 25, 3) := by decide +kernel
theorem dX7_readSetting_40 : decode cX7_readSetting 40 = .ok (.aload_n 0, 1) := by decide +kernel
theorem dX7_readSetting_41 : decode cX7_readSetting 41 = .ok (.iconst 0, 1) := by decide +kernel
theorem dX7_readSetting_42 : decode cX7_readSetting 42 = .ok (.sipush 10000, 3) := by decide +kernel
theorem dX7_readSetting_45 : decode cX7_readSetting 45 = .ok (.invokevirtual 104, 3) := by decide +kernel
theorem dX7_readSetting_48 : decode cX7_readSetting 48 = .ok (.putfield 117, 3) := by decide +kernel
theorem dX7_readSetting_51 : decode cX7_readSetting 51 = .ok (.goto 119, 3) := by decide +kernel
theorem dX7_readSetting_54 : decode cX7_readSetting 54 = .ok (.aload_n 0, 1) := by decide +kernel
theorem dX7_readSetting_55 : decode cX7_readSetting 55 = .ok (.getfield 25, 3) := by decide +kernel
theorem dX7_readSetting_58 : decode cX7_readSetting 58 = .ok (.aload_n 0, 1) := by decide +kernel
theorem dX7_readSetting_59 : decode cX7_readSetting 59 = .ok (.iconst 0, 1) := by decide +kernel
theorem dX7_readSetting_60 : decode cX7_readSetting 60 = .ok (.ldc 103, 2) := by decide +kernel
theorem dX7_readSetting_62 : decode cX7_readSetting 62 = .ok (.invokevirtual 104, 3) := by decide +kernel
theorem dX7_readSetting_65 : decode cX7_readSetting 65 = .ok (.putfield 120, 3) := by decide +kernel
theorem dX7_readSetting_68 : decode cX7_readSetting 68 = .ok (.goto 102, 3) := by decide +kernel
theorem dX7_readSetting_71 : decode cX7_readSetting 71 = .ok (.aload_n 0, 1) := by decide +kernel
theorem dX7_readSetting_72 : decode cX7_readSetting 72 = .ok (.getfield 25, 3) := by decide +kernel
theorem dX7_readSetting_75 : decode cX7_readSetting 75 = .ok (.aload_n 0, 1) := by decide +kernel
theorem dX7_readSetting_76 : decode cX7_readSetting 76 = .ok (.iconst 0, 1) := by decide +kernel
theorem dX7_readSetting_77 : decode cX7_readSetting 77 = .ok (.ldc 103, 2) := by decide +kernel
theorem dX7_readSetting_79 : decode cX7_readSetting 79 = .ok (.invokevirtual 104, 3) := by decide +kernel
theorem dX7_readSetting_82 : decode cX7_readSetting 82 = .ok (.putfield 123, 3) := by decide +kernel
theorem dX7_readSetting_85 : decode cX7_readSetting 85 = .ok (.goto 85, 3) := by decide +kernel
theorem dX7_readSetting_88 : decode cX7_readSetting 88 = .ok (.aload_n 0, 1) := by decide +kernel
theorem dX7_readSetting_89 : decode cX7_readSetting 89 = .ok (.getfield 25, 3) := by decide +kernel
theorem dX7_readSetting_92 : decode cX7_readSetting 92 = .ok (.aload_n 0, 1) := by decide +kernel
theorem dX7_readSetting_93 : decode cX7_readSetting 93 = .ok (.iconst 0, 1) := by decide +kernel
theorem dX7_readSetting_94 : decode cX7_readSetting 94 = .ok (.sipush 200, 3) := by decide +kernel
theorem dX7_readSetting_97 : decode cX7_readSetting 97 = .ok (.invokevirtual 104, 3) := by decide +kernel
theorem dX7_readSetting_100 : decode cX7_readSetting 100 = .ok (.putfield 126, 3) := by decide +kernel
theorem dX7_readSetting_103 : decode cX7_readSetting 103 = .ok (.goto 67, 3) := by decide +kernel
theorem dX7_readSetting_106 : decode cX7_readSetting 106 = .ok (.aload_n 0, 1) := by decide +kernel
theorem dX7_readSetting_107 : decode cX7_readSetting 107 = .ok (.getfield 25, 3) := by decide +kernel
theorem dX7_readSetting_110 : decode cX7_readSetting 110 = .ok (.aload_n 0, 1) := by decide +kernel
theorem dX7_readSetting_111 : decode cX7_readSetting 111 = .ok (.iconst 0, 1) := by decide +kernel
theorem dX7_readSetting_112 : decode cX7_readSetting 112 = .ok (.ldc 103, 2) := by decide +kernel
theorem dX7_readSetting_114 : decode cX7_readSetting 114 = .ok (.invokevirtual 104, 3) := by decide +kernel
theorem dX7_readSetting_117 : decode cX7_readSetting 117 = .ok (.putfield 129, 3) := by decide +kernel
theorem dX7_readSetting_120 : decode cX7_readSetting 120 = .ok (.goto 50, 3) := by decide +kernel
theorem dX7_readSetting_123 : decode cX7_readSetting 123 = .ok (.aload_n 0, 1) := by decide +kernel
theorem dX7_readSetting_124 : decode cX7_readSetting 124 = .ok (.getfield 35, 3) := by decide +kernel
theorem dX7_readSetting_127 : decode cX7_readSetting 127 = .ok (.iconst 3, 1) := by decide +kernel
theorem dX7_readSetting_128 : decode cX7_readSetting 128 = .ok (.if_icmp .ne 28, 3) := by decide +kernel
theorem dX7_readSetting_131 : decode cX7_readSetting 131 = .ok (.aload_n 0, 1) := by decide +kernel
theorem dX7_readSetting_132 : decode cX7_readSetting 132 = .ok (.getfield 47, 3) := by decide +kernel
theorem dX7_readSetting_135 : decode cX7_readSetting 135 = .ok (.bipush 8, 2) := by decide +kernel
theorem dX7_readSetting_137 : decode cX7_readSetting 137 = .ok (.if_icmp .gt 19, 3) := by decide +kernel
theorem dX7_readSetting_140 : decode cX7_readSetting 140 = .ok (.aload_n 0, 1) := by decide +kernel
theorem dX7_readSetting_141 : decode cX7_readSetting 141 = .ok (.getfield 44, 3) := by decide +kernel
theorem dX7_readSetting_144 : decode cX7_readSetting 144 = .ok (.aload_n 0, 1) := by decide +kernel
theorem dX7_readSetting_145 : decode cX7_readSetting 145 = .ok (.getfield 19, 3) := by decide +kernel
theorem dX7_readSetting_148 : decode cX7_readSetting 148 = .ok (.if_icmp .lt 8, 3) := by decide +kernel
theorem dX7_readSetting_151 : decode cX7_readSetting 151 = .ok (.aload_n 0, 1) := by decide +kernel
theorem dX7_readSetting_152 : decode cX7_readSetting 152 = .ok (.iconst 4, 1) := by decide +kernel
theorem dX7_readSetting_153 : decode cX7_readSetting 153 = .ok (.invokevirtual 91, 3) := by decide +kernel
theorem dX7_readSetting_156 : decode cX7_readSetting 156 = .ok (.aload_n 0, 1) := by decide +kernel
theorem dX7_readSetting_157 : decode cX7_readSetting 157 = .ok (.getfield 25, 3) := by decide +kernel
theorem dX7_readSetting_160 : decode cX7_readSetting 160 = .ok (.aload_n 0, 1) := by decide +kernel
theorem dX7_readSetting_161 : decode cX7_readSetting 161 = .ok (.iconst 0, 1) := by decide +kernel
theorem dX7_readSetting_162 : decode cX7_readSetting 162 = .ok (.ldc 103, 2) := by decide +kernel
theorem dX7_readSetting_164 : decode cX7_readSetting 164 = .ok (.invokevirtual 104, 3) := by decide +kernel
theorem dX7_readSetting_167 : decode cX7_readSetting 167 = .ok (.invokevirtual 132, 3) := by decide +kernel
theorem dX7_readSetting_170 : decode cX7_readSetting 170 = .ok (.return_, 1) := by decide +kernel
theorem dX7_takeSign_0 : decode cX7_takeSign 0 = .ok (.aload_n 0, 1) := by decide +kernel
theorem dX7_takeSign_1 : decode cX7_takeSign 1 = .ok (.getfield 35, 3) := by decide +kernel
theorem dX7_takeSign_4 : decode cX7_takeSign 4 = .ok (.iload_n 1, 1) := by decide +kernel
theorem dX7_takeSign_5 : decode cX7_takeSign 5 = .ok (.if_icmp .eq 8, 3) := by decide +kernel
theorem dX7_takeSign_8 : decode cX7_takeSign 8 = .ok (.aload_n 0, 1) := by decide +kernel
theorem dX7_takeSign_9 : decode cX7_takeSign 9 = .ok (.iconst 1, 1) := by decide +kernel
theorem dX7_takeSign_10 : decode cX7_takeSign 10 = .ok (.invokevirtual 91, 3) := by decide +kernel
theorem dX7_takeSign_13 : decode cX7_takeSign 13 = .ok (.aload_n 0, 1) := by decide +kernel
theorem dX7_takeSign_14 : decode cX7_takeSign 14 = .ok (.invokevirtual 59, 3) := by decide +kernel
theorem dX7_takeSign_17 : decode cX7_takeSign 17 = .ok (.return_, 1) := by decide +kernel
theorem dX7_takeNumber_0 : decode cX7_takeNumber 0 = .ok (.aload_n 0, 1) := by decide +kernel
theorem dX7_takeNumber_1 : decode cX7_takeNumber 1 = .ok (.getfield 44, 3) := by decide +kernel
theorem dX7_takeNumber_4 : decode cX7_takeNumber 4 = .ok (.istore_n 3, 1) := by decide +kernel
theorem dX7_takeNumber_5 : decode cX7_takeNumber 5 = .ok (.aload_n 0, 1) := by decide +kernel
theorem dX7_takeNumber_6 : decode cX7_takeNumber 6 = .ok (.getfield 35, 3) := by decide +kernel
theorem dX7_takeNumber_9 : decode cX7_takeNumber 9 = .ok (.iconst 3, 1) := by decide +kernel
theorem dX7_takeNumber_10 : decode cX7_takeNumber 10 = .ok (.if_icmp .eq 11, 3) := by decide +kernel
theorem dX7_takeNumber_13 : decode cX7_takeNumber 13 = .ok (.aload_n 0, 1) := by decide +kernel
theorem dX7_takeNumber_14 : decode cX7_takeNumber 14 = .ok (.iconst 1, 1) := by decide +kernel
theorem dX7_takeNumber_15 : decode cX7_takeNumber 15 = .ok (.invokevirtual 91, 3) := by decide +kernel
theorem dX7_takeNumber_18 : decode cX7_takeNumber 18 = .ok (.goto 33, 3) := by decide +kernel
theorem dX7_takeNumber_21 : decode cX7_takeNumber 21 = .ok (.aload_n 0, 1) := by decide +kernel
theorem dX7_takeNumber_22 : decode cX7_takeNumber 22 = .ok (.getfield 47, 3) := by decide +kernel
theorem dX7_takeNumber_25 : decode cX7_takeNumber 25 = .ok (.bipush 8, 2) := by decide +kernel
theorem dX7_takeNumber_27 : decode cX7_takeNumber 27 = .ok (.if_icmp .gt 19, 3) := by decide +kernel
theorem dX7_takeNumber_30 : decode cX7_takeNumber 30 = .ok (.aload_n 0, 1) := by decide +kernel
theorem dX7_takeNumber_31 : decode cX7_takeNumber 31 = .ok (.getfield 44, 3) := by decide +kernel
theorem dX7_takeNumber_34 : decode cX7_takeNumber 34 = .ok (.iload_n 1, 1) := by decide +kernel
theorem dX7_takeNumber_35 : decode cX7_takeNumber 35 = .ok (.if_icmp .lt 11, 3) := by decide +kernel
theorem dX7_takeNumber_38 : decode cX7_takeNumber 38 = .ok (.aload_n 0, 1) := by decide +kernel
theorem dX7_takeNumber_39 : decode cX7_takeNumber 39 = .ok (.getfield 44, 3) := by decide +kernel
theorem dX7_takeNumber_42 : decode cX7_takeNumber 42 = .ok (.iload_n 2, 1) := by decide +kernel
theorem dX7_takeNumber_43 : decode cX7_takeNumber 43 = .ok (.if_icmp .le 8, 3) := by decide +kernel
theorem dX7_takeNumber_46 : decode cX7_takeNumber 46 = .ok (.aload_n 0, 1) := by decide +kernel
theorem dX7_takeNumber_47 : decode cX7_takeNumber 47 = .ok (.iconst 2, 1) := by decide +kernel
theorem dX7_takeNumber_48 : decode cX7_takeNumber 48 = .ok (.invokevirtual 91, 3) := by decide +kernel
theorem dX7_takeNumber_51 : decode cX7_takeNumber 51 = .ok (.aload_n 0, 1) := by decide +kernel
theorem dX7_takeNumber_52 : decode cX7_takeNumber 52 = .ok (.invokevirtual 59, 3) := by decide +kernel
theorem dX7_takeNumber_55 : decode cX7_takeNumber 55 = .ok (.iload_n 3, 1) := by decide +kernel
theorem dX7_takeNumber_56 : decode cX7_takeNumber 56 = .ok (.ireturn, 1) := by decide +kernel
theorem dX7_readExpr_0 : decode cX7_readExpr 0 = .ok (.iload_n 1, 1) := by decide +kernel
theorem dX7_readExpr_1 : decode cX7_readExpr 1 = .ok (.bipush 6, 2) := by decide +kernel
theorem dX7_readExpr_3 : decode cX7_readExpr 3 = .ok (.if_icmp .lt 34, 3) := by decide +kernel
theorem dX7_readExpr_6 : decode cX7_readExpr 6 = .ok (.aload_n 0, 1) := by decide +kernel
theorem dX7_readExpr_7 : decode cX7_readExpr 7 = .ok (.getfield 35, 3) := by decide +kernel
theorem dX7_readExpr_10 : decode cX7_readExpr 10 = .ok (.iconst 3, 1) := by decide +kernel
theorem dX7_readExpr_11 : decode cX7_readExpr 11 = .ok (.if_icmp .eq 20, 3) := by decide +kernel
theorem dX7_readExpr_14 : decode cX7_readExpr 14 = .ok (.aload_n 0, 1) := by decide +kernel
theorem dX7_readExpr_15 : decode cX7_readExpr 15 = .ok (.getfield 35, 3) := by decide +kernel
theorem dX7_readExpr_18 : decode cX7_readExpr 18 = .ok (.iconst 2, 1) := by decide +kernel
theorem dX7_readExpr_19 : decode cX7_readExpr 19 = .ok (.if_icmp .eq 12, 3) := by decide +kernel
theorem dX7_readExpr_22 : decode cX7_readExpr 22 = .ok (.aload_n 0, 1) := by decide +kernel
theorem dX7_readExpr_23 : decode cX7_readExpr 23 = .ok (.getfield 35, 3) := by decide +kernel
theorem dX7_readExpr_26 : decode cX7_readExpr 26 = .ok (.bipush 40, 2) := by decide +kernel
theorem dX7_readExpr_28 : decode cX7_readExpr 28 = .ok (.if_icmp .ne 9, 3) := by decide +kernel
theorem dX7_readExpr_31 : decode cX7_readExpr 31 = .ok (.aload_n 0, 1) := by decide +kernel
theorem dX7_readExpr_32 : decode cX7_readExpr 32 = .ok (.iconst 2, 1) := by decide +kernel
theorem dX7_readExpr_33 : decode cX7_readExpr 33 = .ok (.invokevirtual 91, 3) := by decide +kernel
theorem dX7_readExpr_36 : decode cX7_readExpr 36 = .ok (.return_, 1) := by decide +kernel
theorem dX7_readExpr_37 : decode cX7_readExpr 37 = .ok (.aload_n 0, 1) := by decide +kernel
theorem dX7_readExpr_38 : decode cX7_readExpr 38 = .ok (.iload_n 1, 1) := by decide +kernel
theorem dX7_readExpr_39 : decode cX7_readExpr 39 = .ok (.invokevirtual 135, 3) := by decide +kernel
theorem dX7_readExpr_42 : decode cX7_readExpr 42 = .ok (.iconst 0, 1) := by decide +kernel
theorem dX7_readExpr_43 : decode cX7_readExpr 43 = .ok (.istore_n 2, 1) := by decide +kernel
theorem dX7_readExpr_44 : decode cX7_readExpr 44 = .ok (.iload_n 2, 1) := by decide +kernel
theorem dX7_readExpr_45 : decode cX7_readExpr 45 = .ok (.aload_n 0, 1) := by decide +kernel
theorem dX7_readExpr_46 : decode cX7_readExpr 46 = .ok (.getfield 15, 3) := by decide +kernel
theorem dX7_readExpr_49 : decode cX7_readExpr 49 = .ok (.if_icmp .ge 43, 3) := by decide +kernel
theorem dX7_readExpr_52 : decode cX7_readExpr 52 = .ok (.aload_n 0, 1) := by decide +kernel
theorem dX7_readExpr_53 : decode cX7_readExpr 53 = .ok (.getfield 29, 3) := by decide +kernel
theorem dX7_readExpr_56 : decode cX7_readExpr 56 = .ok (.ifCond .ne 36, 3) := by decide +kernel
theorem dX7_readExpr_59 : decode cX7_readExpr 59 = .ok (.aload_n 0, 1) := by decide +kernel
theorem dX7_readExpr_60 : decode cX7_readExpr 60 = .ok (.ldc 138, 2) := by decide +kernel
theorem dX7_readExpr_62 : decode cX7_readExpr 62 = .ok (.invokevirtual 140, 3) := by decide +kernel
theorem dX7_readExpr_65 : decode cX7_readExpr 65 = .ok (.ifCond .eq 27, 3) := by decide +kernel
theorem dX7_readExpr_68 : decode cX7_readExpr 68 = .ok (.aload_n 0, 1) := by decide +kernel
theorem dX7_readExpr_69 : decode cX7_readExpr 69 = .ok (.invokevirtual 59, 3) := by decide +kernel
theorem dX7_readExpr_72 : decode cX7_readExpr 72 = .ok (.aload_n 0, 1) := by decide +kernel
theorem dX7_readExpr_73 : decode cX7_readExpr 73 = .ok (.iload_n 1, 1) := by decide +kernel
theorem dX7_readExpr_74 : decode cX7_readExpr 74 = .ok (.invokevirtual 135, 3) := by decide +kernel
theorem dX7_readExpr_77 : decode cX7_readExpr 77 = .ok (.aload_n 0, 1) := by decide +kernel
theorem dX7_readExpr_78 : decode cX7_readExpr 78 = .ok (.getfield 25, 3) := by decide +kernel
theorem dX7_readExpr_81 : decode cX7_readExpr 81 = .ok (.bipush (-11), 2) := by decide +kernel
theorem dX7_readExpr_83 : decode cX7_readExpr 83 = .ok (.invokevirtual 144, 3) := by decide +kernel
theorem dX7_readExpr_86 : decode cX7_readExpr 86 = .ok (.iinc 2 1, 3) := by decide +kernel
theorem dX7_readExpr_89 : decode cX7_readExpr 89 = .ok (.goto (-45), 3) := by decide +kernel
theorem dX7_readExpr_92 : decode cX7_readExpr 92 = .ok (.return_, 1) := by decide +kernel
theorem dX7_readAnd_0 : decode cX7_readAnd 0 = .ok (.aload_n 0, 1) := by decide +kernel
theorem dX7_readAnd_1 : decode cX7_readAnd 1 = .ok (.iload_n 1, 1) := by decide +kernel
theorem dX7_readAnd_2 : decode cX7_readAnd 2 = .ok (.invokevirtual 147, 3) := by decide +kernel
theorem dX7_readAnd_5 : decode cX7_readAnd 5 = .ok (.iconst 0, 1) := by decide +kernel
theorem dX7_readAnd_6 : decode cX7_readAnd 6 = .ok (.istore_n 2, 1) := by decide +kernel
theorem dX7_readAnd_7 : decode cX7_readAnd 7 = .ok (.iload_n 2, 1) := by decide +kernel
theorem dX7_readAnd_8 : decode cX7_readAnd 8 = .ok (.aload_n 0, 1) := by decide +kernel
theorem dX7_readAnd_9 : decode cX7_readAnd 9 = .ok (.getfield 15, 3) := by decide +kernel
theorem dX7_readAnd_12 : decode cX7_readAnd 12 = .ok (.if_icmp .ge 43, 3) := by decide +kernel
theorem dX7_readAnd_15 : decode cX7_readAnd 15 = .ok (.aload_n 0, 1) := by decide +kernel
theorem dX7_readAnd_16 : decode cX7_readAnd 16 = .ok (.getfield 29, 3) := by decide +kernel
theorem dX7_readAnd_19 : decode cX7_readAnd 19 = .ok (.ifCond .ne 36, 3) := by decide +kernel
theorem dX7_readAnd_22 : decode cX7_readAnd 22 = .ok (.aload_n 0, 1) := by decide +kernel
theorem dX7_readAnd_23 : decode cX7_readAnd 23 = .ok (.ldc 150, 2) := by decide +kernel
theorem dX7_readAnd_25 : decode cX7_readAnd 25 = .ok (.invokevirtual 140, 3) := by decide +kernel
theorem dX7_readAnd_28 : decode cX7_readAnd 28 = .ok (.ifCond .eq 27, 3) := by decide +kernel
theorem dX7_readAnd_31 : decode cX7_readAnd 31 = .ok (.aload_n 0, 1) := by decide +kernel
theorem dX7_readAnd_32 : decode cX7_readAnd 32 = .ok (.invokevirtual 59, 3) := by decide +kernel
theorem dX7_readAnd_35 : decode cX7_readAnd 35 = .ok (.aload_n 0, 1) := by decide +kernel
theorem dX7_readAnd_36 : decode cX7_readAnd 36 = .ok (.iload_n 1, 1) := by decide +kernel
theorem dX7_readAnd_37 : decode cX7_readAnd 37 = .ok (.invokevirtual 147, 3) := by decide +kernel
theorem dX7_readAnd_40 : decode cX7_readAnd 40 = .ok (.aload_n 0, 1) := by decide +kernel
theorem dX7_readAnd_41 : decode cX7_readAnd 41 = .ok (.getfield 25, 3) := by decide +kernel
theorem dX7_readAnd_44 : decode cX7_readAnd 44 = .ok (.bipush (-12), 2) := by decide +kernel
theorem dX7_readAnd_46 : decode cX7_readAnd 46 = .ok (.invokevirtual 144, 3) := by decide +kernel
theorem dX7_readAnd_49 : decode cX7_readAnd 49 = .ok (.iinc 2 1, 3) := by decide +kernel
theorem dX7_readAnd_52 : decode cX7_readAnd 52 = .ok (.goto (-45), 3) := by decide +kernel
theorem dX7_readAnd_55 : decode cX7_readAnd 55 = .ok (.return_, 1) := by decide +kernel
theorem dX7_readNot_0 : decode cX7_readNot 0 = .ok (.iconst 0, 1) := by decide +kernel
theorem dX7_readNot_1 : decode cX7_readNot 1 = .ok (.istore_n 2, 1) := by decide +kernel
theorem dX7_readNot_2 : decode cX7_readNot 2 = .ok (.iload_n 2, 1) := by decide +kernel
theorem dX7_readNot_3 : decode cX7_readNot 3 = .ok (.bipush 6, 2) := by decide +kernel
theorem dX7_readNot_5 : decode cX7_readNot 5 = .ok (.if_icmp .ge 22, 3) := by decide +kernel
theorem dX7_readNot_8 : decode cX7_readNot 8 = .ok (.aload_n 0, 1) := by decide +kernel
theorem dX7_readNot_9 : decode cX7_readNot 9 = .ok (.ldc 152, 2) := by decide +kernel
theorem dX7_readNot_11 : decode cX7_readNot 11 = .ok (.invokevirtual 140, 3) := by decide +kernel
theorem dX7_readNot_14 : decode cX7_readNot 14 = .ok (.ifCond .eq 13, 3) := by decide +kernel
theorem dX7_readNot_17 : decode cX7_readNot 17 = .ok (.iinc 2 1, 3) := by decide +kernel
theorem dX7_readNot_20 : decode cX7_readNot 20 = .ok (.aload_n 0, 1) := by decide +kernel
theorem dX7_readNot_21 : decode cX7_readNot 21 = .ok (.invokevirtual 59, 3) := by decide +kernel
theorem dX7_readNot_24 : decode cX7_readNot 24 = .ok (.goto (-22), 3) := by decide +kernel
theorem dX7_readNot_27 : decode cX7_readNot 27 = .ok (.aload_n 0, 1) := by decide +kernel
theorem dX7_readNot_28 : decode cX7_readNot 28 = .ok (.ldc 152, 2) := by decide +kernel
theorem dX7_readNot_30 : decode cX7_readNot 30 = .ok (.invokevirtual 140, 3) := by decide +kernel
theorem dX7_readNot_33 : decode cX7_readNot 33 = .ok (.ifCond .eq 9, 3) := by decide +kernel
theorem dX7_readNot_36 : decode cX7_readNot 36 = .ok (.aload_n 0, 1) := by decide +kernel
theorem dX7_readNot_37 : decode cX7_readNot 37 = .ok (.iconst 2, 1) := by decide +kernel
theorem dX7_readNot_38 : decode cX7_readNot 38 = .ok (.invokevirtual 91, 3) := by decide +kernel
theorem dX7_readNot_41 : decode cX7_readNot 41 = .ok (.return_, 1) := by decide +kernel
theorem dX7_readNot_42 : decode cX7_readNot 42 = .ok (.aload_n 0, 1) := by decide +kernel
theorem dX7_readNot_43 : decode cX7_readNot 43 = .ok (.iload_n 1, 1) := by decide +kernel
theorem dX7_readNot_44 : decode cX7_readNot 44 = .ok (.invokevirtual 154, 3) := by decide +kernel
theorem dX7_readNot_47 : decode cX7_readNot 47 = .ok (.aload_n 0, 1) := by decide +kernel
theorem dX7_readNot_48 : decode cX7_readNot 48 = .ok (.getfield 29, 3) := by decide +kernel
theorem dX7_readNot_51 : decode cX7_readNot 51 = .ok (.ifCond .ne 55, 3) := by decide +kernel
theorem dX7_readNot_54 : decode cX7_readNot 54 = .ok (.aload_n 0, 1) := by decide +kernel
theorem dX7_readNot_55 : decode cX7_readNot 55 = .ok (.getfield 35, 3) := by decide +kernel
theorem dX7_readNot_58 : decode cX7_readNot 58 = .ok (.bipush 60, 2) := by decide +kernel
theorem dX7_readNot_60 : decode cX7_readNot 60 = .ok (.if_icmp .eq 12, 3) := by decide +kernel
theorem dX7_readNot_63 : decode cX7_readNot 63 = .ok (.aload_n 0, 1) := by decide +kernel
theorem dX7_readNot_64 : decode cX7_readNot 64 = .ok (.getfield 35, 3) := by decide +kernel
theorem dX7_readNot_67 : decode cX7_readNot 67 = .ok (.bipush 61, 2) := by decide +kernel
theorem dX7_readNot_69 : decode cX7_readNot 69 = .ok (.if_icmp .ne 37, 3) := by decide +kernel
theorem dX7_readNot_72 : decode cX7_readNot 72 = .ok (.aload_n 0, 1) := by decide +kernel
theorem dX7_readNot_73 : decode cX7_readNot 73 = .ok (.getfield 35, 3) := by decide +kernel
theorem dX7_readNot_76 : decode cX7_readNot 76 = .ok (.bipush 60, 2) := by decide +kernel
theorem dX7_readNot_78 : decode cX7_readNot 78 = .ok (.if_icmp .ne 8, 3) := by decide +kernel
theorem dX7_readNot_81 : decode cX7_readNot 81 = .ok (.bipush (-14), 2) := by decide +kernel
theorem dX7_readNot_83 : decode cX7_readNot 83 = .ok (.goto 5, 3) := by decide +kernel
theorem dX7_readNot_86 : decode cX7_readNot 86 = .ok (.bipush (-15), 2) := by decide +kernel
theorem dX7_readNot_88 : decode cX7_readNot 88 = .ok (.istore_n 3, 1) := by decide +kernel
theorem dX7_readNot_89 : decode cX7_readNot 89 = .ok (.aload_n 0, 1) := by decide +kernel
theorem dX7_readNot_90 : decode cX7_readNot 90 = .ok (.invokevirtual 59, 3) := by decide +kernel
theorem dX7_readNot_93 : decode cX7_readNot 93 = .ok (.aload_n 0, 1) := by decide +kernel
theorem dX7_readNot_94 : decode cX7_readNot 94 = .ok (.iload_n 1, 1) := by decide +kernel
theorem dX7_readNot_95 : decode cX7_readNot 95 = .ok (.invokevirtual 154, 3) := by decide +kernel
theorem dX7_readNot_98 : decode cX7_readNot 98 = .ok (.aload_n 0, 1) := by decide +kernel
theorem dX7_readNot_99 : decode cX7_readNot 99 = .ok (.getfield 25, 3) := by decide +kernel
theorem dX7_readNot_102 : decode cX7_readNot 102 = .ok (.iload_n 3, 1) := by decide +kernel
theorem dX7_readNot_103 : decode cX7_readNot 103 = .ok (.invokevirtual 144, 3) := by decide +kernel
theorem dX7_readNot_106 : decode cX7_readNot 106 = .ok (.iconst 0, 1) := by decide +kernel
theorem dX7_readNot_107 : decode cX7_readNot 107 = .ok (.istore_n 3, 1) := by decide +kernel
theorem dX7_readNot_108 : decode cX7_readNot 108 = .ok (.iload_n 3, 1) := by decide +kernel
theorem dX7_readNot_109 : decode cX7_readNot 109 = .ok (.iload_n 2, 1) := by decide +kernel
theorem dX7_readNot_110 : decode cX7_readNot 110 = .ok (.if_icmp .ge 18, 3) := by decide +kernel
theorem dX7_readNot_113 : decode cX7_readNot 113 = .ok (.aload_n 0, 1) := by decide +kernel
theorem dX7_readNot_114 : decode cX7_readNot 114 = .ok (.getfield 25, 3) := by decide +kernel
theorem dX7_readNot_117 : decode cX7_readNot 117 = .ok (.bipush (-13), 2) := by decide +kernel
theorem dX7_readNot_119 : decode cX7_readNot 119 = .ok (.invokevirtual 144, 3) := by decide +kernel
theorem dX7_readNot_122 : decode cX7_readNot 122 = .ok (.iinc 3 1, 3) := by decide +kernel
theorem dX7_readNot_125 : decode cX7_readNot 125 = .ok (.goto (-17), 3) := by decide +kernel
theorem dX7_readNot_128 : decode cX7_readNot 128 = .ok (.return_, 1) := by decide +kernel
theorem dX7_readSum_0 : decode cX7_readSum 0 = .ok (.aload_n 0, 1) := by decide +kernel
theorem dX7_readSum_1 : decode cX7_readSum 1 = .ok (.iload_n 1, 1) := by decide +kernel
theorem dX7_readSum_2 : decode cX7_readSum 2 = .ok (.invokevirtual 157, 3) := by decide +kernel
theorem dX7_readSum_5 : decode cX7_readSum 5 = .ok (.iconst 0, 1) := by decide +kernel
theorem dX7_readSum_6 : decode cX7_readSum 6 = .ok (.istore_n 2, 1) := by decide +kernel
theorem dX7_readSum_7 : decode cX7_readSum 7 = .ok (.iload_n 2, 1) := by decide +kernel
theorem dX7_readSum_8 : decode cX7_readSum 8 = .ok (.aload_n 0, 1) := by decide +kernel
theorem dX7_readSum_9 : decode cX7_readSum 9 = .ok (.getfield 15, 3) := by decide +kernel
theorem dX7_readSum_12 : decode cX7_readSum 12 = .ok (.if_icmp .ge 68, 3) := by decide +kernel
theorem dX7_readSum_15 : decode cX7_readSum 15 = .ok (.aload_n 0, 1) := by decide +kernel
theorem dX7_readSum_16 : decode cX7_readSum 16 = .ok (.getfield 29, 3) := by decide +kernel
theorem dX7_readSum_19 : decode cX7_readSum 19 = .ok (.ifCond .ne 61, 3) := by decide +kernel
theorem dX7_readSum_22 : decode cX7_readSum 22 = .ok (.aload_n 0, 1) := by decide +kernel
theorem dX7_readSum_23 : decode cX7_readSum 23 = .ok (.getfield 35, 3) := by decide +kernel
theorem dX7_readSum_26 : decode cX7_readSum 26 = .ok (.bipush 43, 2) := by decide +kernel
theorem dX7_readSum_28 : decode cX7_readSum 28 = .ok (.if_icmp .eq 12, 3) := by decide +kernel
theorem dX7_readSum_31 : decode cX7_readSum 31 = .ok (.aload_n 0, 1) := by decide +kernel
theorem dX7_readSum_32 : decode cX7_readSum 32 = .ok (.getfield 35, 3) := by decide +kernel
theorem dX7_readSum_35 : decode cX7_readSum 35 = .ok (.bipush 45, 2) := by decide +kernel
theorem dX7_readSum_37 : decode cX7_readSum 37 = .ok (.if_icmp .ne 43, 3) := by decide +kernel
theorem dX7_readSum_40 : decode cX7_readSum 40 = .ok (.aload_n 0, 1) := by decide +kernel
theorem dX7_readSum_41 : decode cX7_readSum 41 = .ok (.getfield 35, 3) := by decide +kernel
theorem dX7_readSum_44 : decode cX7_readSum 44 = .ok (.bipush 43, 2) := by decide +kernel
theorem dX7_readSum_46 : decode cX7_readSum 46 = .ok (.if_icmp .ne 8, 3) := by decide +kernel
theorem dX7_readSum_49 : decode cX7_readSum 49 = .ok (.bipush (-16), 2) := by decide +kernel
theorem dX7_readSum_51 : decode cX7_readSum 51 = .ok (.goto 5, 3) := by decide +kernel
theorem dX7_readSum_54 : decode cX7_readSum 54 = .ok (.bipush (-17), 2) := by decide +kernel
theorem dX7_readSum_56 : decode cX7_readSum 56 = .ok (.istore_n 3, 1) := by decide +kernel
theorem dX7_readSum_57 : decode cX7_readSum 57 = .ok (.aload_n 0, 1) := by decide +kernel
theorem dX7_readSum_58 : decode cX7_readSum 58 = .ok (.invokevirtual 59, 3) := by decide +kernel
theorem dX7_readSum_61 : decode cX7_readSum 61 = .ok (.aload_n 0, 1) := by decide +kernel
theorem dX7_readSum_62 : decode cX7_readSum 62 = .ok (.iload_n 1, 1) := by decide +kernel
theorem dX7_readSum_63 : decode cX7_readSum 63 = .ok (.invokevirtual 157, 3) := by decide +kernel
theorem dX7_readSum_66 : decode cX7_readSum 66 = .ok (.aload_n 0, 1) := by decide +kernel
theorem dX7_readSum_67 : decode cX7_readSum 67 = .ok (.getfield 25, 3) := by decide +kernel
theorem dX7_readSum_70 : decode cX7_readSum 70 = .ok (.iload_n 3, 1) := by decide +kernel
theorem dX7_readSum_71 : decode cX7_readSum 71 = .ok (.invokevirtual 144, 3) := by decide +kernel
theorem dX7_readSum_74 : decode cX7_readSum 74 = .ok (.iinc 2 1, 3) := by decide +kernel
theorem dX7_readSum_77 : decode cX7_readSum 77 = .ok (.goto (-70), 3) := by decide +kernel
theorem dX7_readSum_80 : decode cX7_readSum 80 = .ok (.return_, 1) := by decide +kernel
theorem dX7_readProduct_0 : decode cX7_readProduct 0 = .ok (.aload_n 0, 1) := by decide +kernel
theorem dX7_readProduct_1 : decode cX7_readProduct 1 = .ok (.iload_n 1, 1) := by decide +kernel
theorem dX7_readProduct_2 : decode cX7_readProduct 2 = .ok (.invokevirtual 160, 3) := by decide +kernel
theorem dX7_readProduct_5 : decode cX7_readProduct 5 = .ok (.iconst 0, 1) := by decide +kernel
theorem dX7_readProduct_6 : decode cX7_readProduct 6 = .ok (.istore_n 2, 1) := by decide +kernel
theorem dX7_readProduct_7 : decode cX7_readProduct 7 = .ok (.iload_n 2, 1) := by decide +kernel
theorem dX7_readProduct_8 : decode cX7_readProduct 8 = .ok (.aload_n 0, 1) := by decide +kernel
theorem dX7_readProduct_9 : decode cX7_readProduct 9 = .ok (.getfield 15, 3) := by decide +kernel
theorem dX7_readProduct_12 : decode cX7_readProduct 12 = .ok (.if_icmp .ge 68, 3) := by decide +kernel
theorem dX7_readProduct_15 : decode cX7_readProduct 15 = .ok (.aload_n 0, 1) := by decide +kernel
theorem dX7_readProduct_16 : decode cX7_readProduct 16 = .ok (.getfield 29, 3) := by decide +kernel
theorem dX7_readProduct_19 : decode cX7_readProduct 19 = .ok (.ifCond .ne 61, 3) := by decide +kernel
theorem dX7_readProduct_22 : decode cX7_readProduct 22 = .ok (.aload_n 0, 1) := by decide +kernel
theorem dX7_readProduct_23 : decode cX7_readProduct 23 = .ok (.getfield 35, 3) := by decide +kernel
theorem dX7_readProduct_26 : decode cX7_readProduct 26 = .ok (.bipush 42, 2) := by decide +kernel
theorem dX7_readProduct_28 : decode cX7_readProduct 28 = .ok (.if_icmp .eq 12, 3) := by decide +kernel
theorem dX7_readProduct_31 : decode cX7_readProduct 31 = .ok (.aload_n 0, 1) := by decide +kernel
theorem dX7_readProduct_32 : decode cX7_readProduct 32 = .ok (.getfield 35, 3) := by decide +kernel
theorem dX7_readProduct_35 : decode cX7_readProduct 35 = .ok (.bipush 47, 2) := by decide +kernel
theorem dX7_readProduct_37 : decode cX7_readProduct 37 = .ok (.if_icmp .ne 43, 3) := by decide +kernel
theorem dX7_readProduct_40 : decode cX7_readProduct 40 = .ok (.aload_n 0, 1) := by decide +kernel
theorem dX7_readProduct_41 : decode cX7_readProduct 41 = .ok (.getfield 35, 3) := by decide +kernel
theorem dX7_readProduct_44 : decode cX7_readProduct 44 = .ok (.bipush 42, 2) := by decide +kernel
theorem dX7_readProduct_46 : decode cX7_readProduct 46 = .ok (.if_icmp .ne 8, 3) := by decide +kernel
theorem dX7_readProduct_49 : decode cX7_readProduct 49 = .ok (.bipush (-18), 2) := by decide +kernel
theorem dX7_readProduct_51 : decode cX7_readProduct 51 = .ok (.goto 5, 3) := by decide +kernel
theorem dX7_readProduct_54 : decode cX7_readProduct 54 = .ok (.bipush (-19), 2) := by decide +kernel
theorem dX7_readProduct_56 : decode cX7_readProduct 56 = .ok (.istore_n 3, 1) := by decide +kernel
theorem dX7_readProduct_57 : decode cX7_readProduct 57 = .ok (.aload_n 0, 1) := by decide +kernel
theorem dX7_readProduct_58 : decode cX7_readProduct 58 = .ok (.invokevirtual 59, 3) := by decide +kernel
theorem dX7_readProduct_61 : decode cX7_readProduct 61 = .ok (.aload_n 0, 1) := by decide +kernel
theorem dX7_readProduct_62 : decode cX7_readProduct 62 = .ok (.iload_n 1, 1) := by decide +kernel
theorem dX7_readProduct_63 : decode cX7_readProduct 63 = .ok (.invokevirtual 160, 3) := by decide +kernel
theorem dX7_readProduct_66 : decode cX7_readProduct 66 = .ok (.aload_n 0, 1) := by decide +kernel
theorem dX7_readProduct_67 : decode cX7_readProduct 67 = .ok (.getfield 25, 3) := by decide +kernel
theorem dX7_readProduct_70 : decode cX7_readProduct 70 = .ok (.iload_n 3, 1) := by decide +kernel
theorem dX7_readProduct_71 : decode cX7_readProduct 71 = .ok (.invokevirtual 144, 3) := by decide +kernel
theorem dX7_readProduct_74 : decode cX7_readProduct 74 = .ok (.iinc 2 1, 3) := by decide +kernel
theorem dX7_readProduct_77 : decode cX7_readProduct 77 = .ok (.goto (-70), 3) := by decide +kernel
theorem dX7_readProduct_80 : decode cX7_readProduct 80 = .ok (.return_, 1) := by decide +kernel
theorem dX7_readPart_0 : decode cX7_readPart 0 = .ok (.aload_n 0, 1) := by decide +kernel
theorem dX7_readPart_1 : decode cX7_readPart 1 = .ok (.getfield 35, 3) := by decide +kernel
theorem dX7_readPart_4 : decode cX7_readPart 4 = .ok (.iconst 3, 1) := by decide +kernel
theorem dX7_readPart_5 : decode cX7_readPart 5 = .ok (.if_icmp .ne 20, 3) := by decide +kernel
theorem dX7_readPart_8 : decode cX7_readPart 8 = .ok (.aload_n 0, 1) := by decide +kernel
theorem dX7_readPart_9 : decode cX7_readPart 9 = .ok (.getfield 25, 3) := by decide +kernel
theorem dX7_readPart_12 : decode cX7_readPart 12 = .ok (.aload_n 0, 1) := by decide +kernel
theorem dX7_readPart_13 : decode cX7_readPart 13 = .ok (.iconst 0, 1) := by decide +kernel
theorem dX7_readPart_14 : decode cX7_readPart 14 = .ok (.ldc 103, 2) := by decide +kernel
theorem dX7_readPart_16 : decode cX7_readPart 16 = .ok (.invokevirtual 104, 3) := by decide +kernel
theorem dX7_readPart_19 : decode cX7_readPart 19 = .ok (.invokevirtual 144, 3) := by decide +kernel
theorem dX7_readPart_22 : decode cX7_readPart 22 = .ok (.goto 71, 3) := by decide +kernel
theorem dX7_readPart_25 : decode cX7_readPart 25 = .ok (.aload_n 0, 1) := by decide +kernel
theorem dX7_readPart_26 : decode cX7_readPart 26 = .ok (.getfield 35, 3) := by decide +kernel
theorem dX7_readPart_29 : decode cX7_readPart 29 = .ok (.iconst 2, 1) := by decide +kernel
theorem dX7_readPart_30 : decode cX7_readPart 30 = .ok (.if_icmp .ne 37, 3) := by decide +kernel
theorem dX7_readPart_33 : decode cX7_readPart 33 = .ok (.aload_n 0, 1) := by decide +kernel
theorem dX7_readPart_34 : decode cX7_readPart 34 = .ok (.ldc 163, 2) := by decide +kernel
theorem dX7_readPart_36 : decode cX7_readPart 36 = .ok (.invokevirtual 85, 3) := by decide +kernel
theorem dX7_readPart_39 : decode cX7_readPart 39 = .ok (.istore_n 2, 1) := by decide +kernel
theorem dX7_readPart_40 : decode cX7_readPart 40 = .ok (.iload_n 2, 1) := by decide +kernel
theorem dX7_readPart_41 : decode cX7_readPart 41 = .ok (.iconst (-1), 1) := by decide +kernel
theorem dX7_readPart_42 : decode cX7_readPart 42 = .ok (.if_icmp .ne 8, 3) := by decide +kernel
theorem dX7_readPart_45 : decode cX7_readPart 45 = .ok (.aload_n 0, 1) := by decide +kernel
theorem dX7_readPart_46 : decode cX7_readPart 46 = .ok (.iconst 3, 1) := by decide +kernel
theorem dX7_readPart_47 : decode cX7_readPart 47 = .ok (.invokevirtual 91, 3) := by decide +kernel
theorem dX7_readPart_50 : decode cX7_readPart 50 = .ok (.aload_n 0, 1) := by decide +kernel
