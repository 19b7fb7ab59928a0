theorem dX7_readPart_51 : decode cX7_readPart 51 = .ok (.getfield 25, 3) := by decide +kernel
theorem dX7_readPart_54 : decode cX7_readPart 54 = .ok (.iconst (-1), 1) := by decide +kernel
theorem dX7_readPart_55 : decode cX7_readPart 55 = .ok (.iload_n 2, 1) := by decide +kernel
theorem dX7_readPart_56 : decode cX7_readPart 56 = .ok (.isub, 1) := by decide +kernel
theorem dX7_readPart_57 : decode cX7_readPart 57 = .ok (.invokevirtual 144, 3) := by decide +kernel
theorem dX7_readPart_60 : decode cX7_readPart 60 = .ok (.aload_n 0, 1) := by decide +kernel
theorem dX7_readPart_61 : decode cX7_readPart 61 = .ok (.invokevirtual 59, 3) := by decide +kernel
theorem dX7_readPart_64 : decode cX7_readPart 64 = .ok (.goto 29, 3) := by decide +kernel
theorem dX7_readPart_67 : decode cX7_readPart 67 = .ok (.aload_n 0, 1) := by decide +kernel
theorem dX7_readPart_68 : decode cX7_readPart 68 = .ok (.bipush 40, 2) := by decide +kernel
theorem dX7_readPart_70 : decode cX7_readPart 70 = .ok (.invokevirtual 114, 3) := by decide +kernel
theorem dX7_readPart_73 : decode cX7_readPart 73 = .ok (.aload_n 0, 1) := by decide +kernel
theorem dX7_readPart_74 : decode cX7_readPart 74 = .ok (.getfield 29, 3) := by decide +kernel
theorem dX7_readPart_77 : decode cX7_readPart 77 = .ok (.ifCond .ne 16, 3) := by decide +kernel
theorem dX7_readPart_80 : decode cX7_readPart 80 = .ok (.aload_n 0, 1) := by decide +kernel
theorem dX7_readPart_81 : decode cX7_readPart 81 = .ok (.iload_n 1, 1) := by decide +kernel
theorem dX7_readPart_82 : decode cX7_readPart 82 = .ok (.iconst 1, 1) := by decide +kernel
theorem dX7_readPart_83 : decode cX7_readPart 83 = .ok (.iadd, 1) := by decide +kernel
theorem dX7_readPart_84 : decode cX7_readPart 84 = .ok (.invokevirtual 97, 3) := by decide +kernel
theorem dX7_readPart_87 : decode cX7_readPart 87 = .ok (.aload_n 0, 1) := by decide +kernel
theorem dX7_readPart_88 : decode cX7_readPart 88 = .ok (.bipush 41, 2) := by decide +kernel
theorem dX7_readPart_90 : decode cX7_readPart 90 = .ok (.invokevirtual 114, 3) := by decide +kernel
theorem dX7_readPart_93 : decode cX7_readPart 93 = .ok (.return_, 1) := by decide +kernel
theorem dX8_init_0 : decode cX8_init 0 = .ok (.aload_n 0, 1) := by decide +kernel
theorem dX8_init_1 : decode cX8_init 1 = .ok (.invokespecial 1, 3) := by decide +kernel
theorem dX8_init_4 : decode cX8_init 4 = .ok (.aload_n 0, 1) := by decide +kernel
theorem dX8_init_5 : decode cX8_init 5 = .ok (.iload_n 1, 1) := by decide +kernel
theorem dX8_init_6 : decode cX8_init 6 = .ok (.putfield 7, 3) := by decide +kernel
theorem dX8_init_9 : decode cX8_init 9 = .ok (.aload_n 0, 1) := by decide +kernel
theorem dX8_init_10 : decode cX8_init 10 = .ok (.iload_n 2, 1) := by decide +kernel
theorem dX8_init_11 : decode cX8_init 11 = .ok (.putfield 13, 3) := by decide +kernel
theorem dX8_init_14 : decode cX8_init 14 = .ok (.return_, 1) := by decide +kernel
theorem dX9_init_0 : decode cX9_init 0 = .ok (.aload_n 0, 1) := by decide +kernel
theorem dX9_init_1 : decode cX9_init 1 = .ok (.invokespecial 3, 3) := by decide +kernel
theorem dX9_init_4 : decode cX9_init 4 = .ok (.aload_n 0, 1) := by decide +kernel
theorem dX9_init_5 : decode cX9_init 5 = .ok (.ldc 9, 2) := by decide +kernel
theorem dX9_init_7 : decode cX9_init 7 = .ok (.putfield 10, 3) := by decide +kernel
theorem dX9_init_10 : decode cX9_init 10 = .ok (.aload_n 0, 1) := by decide +kernel
theorem dX9_init_11 : decode cX9_init 11 = .ok (.ldc 9, 2) := by decide +kernel
theorem dX9_init_13 : decode cX9_init 13 = .ok (.putfield 16, 3) := by decide +kernel
theorem dX9_init_16 : decode cX9_init 16 = .ok (.return_, 1) := by decide +kernel
theorem dX9_isKnownOn_0 : decode cX9_isKnownOn 0 = .ok (.aload_n 0, 1) := by decide +kernel
theorem dX9_isKnownOn_1 : decode cX9_isKnownOn 1 = .ok (.getfield 10, 3) := by decide +kernel
theorem dX9_isKnownOn_4 : decode cX9_isKnownOn 4 = .ok (.iload_n 1, 1) := by decide +kernel
theorem dX9_isKnownOn_5 : decode cX9_isKnownOn 5 = .ok (.if_icmp .gt 15, 3) := by decide +kernel
theorem dX9_isKnownOn_8 : decode cX9_isKnownOn 8 = .ok (.iload_n 1, 1) := by decide +kernel
theorem dX9_isKnownOn_9 : decode cX9_isKnownOn 9 = .ok (.aload_n 0, 1) := by decide +kernel
theorem dX9_isKnownOn_10 : decode cX9_isKnownOn 10 = .ok (.getfield 16, 3) := by decide +kernel
theorem dX9_isKnownOn_13 : decode cX9_isKnownOn 13 = .ok (.if_icmp .ge 7, 3) := by decide +kernel
theorem dX9_isKnownOn_16 : decode cX9_isKnownOn 16 = .ok (.iconst 1, 1) := by decide +kernel
theorem dX9_isKnownOn_17 : decode cX9_isKnownOn 17 = .ok (.goto 4, 3) := by decide +kernel
theorem dX9_isKnownOn_20 : decode cX9_isKnownOn 20 = .ok (.iconst 0, 1) := by decide +kernel
theorem dX9_isKnownOn_21 : decode cX9_isKnownOn 21 = .ok (.ireturn, 1) := by decide +kernel
theorem dX10_init_0 : decode cX10_init 0 = .ok (.aload_n 0, 1) := by decide +kernel
theorem dX10_init_1 : decode cX10_init 1 = .ok (.invokespecial 3, 3) := by decide +kernel
theorem dX10_init_4 : decode cX10_init 4 = .ok (.aload_n 0, 1) := by decide +kernel
theorem dX10_init_5 : decode cX10_init 5 = .ok (.iconst 3, 1) := by decide +kernel
theorem dX10_init_6 : decode cX10_init 6 = .ok (.newarray .int, 2) := by decide +kernel
theorem dX10_init_8 : decode cX10_init 8 = .ok (.putfield 9, 3) := by decide +kernel
theorem dX10_init_11 : decode cX10_init 11 = .ok (.aload_n 0, 1) := by decide +kernel
theorem dX10_init_12 : decode cX10_init 12 = .ok (.iconst 3, 1) := by decide +kernel
theorem dX10_init_13 : decode cX10_init 13 = .ok (.newarray .int, 2) := by decide +kernel
theorem dX10_init_15 : decode cX10_init 15 = .ok (.putfield 15, 3) := by decide +kernel
theorem dX10_init_18 : decode cX10_init 18 = .ok (.aload_n 0, 1) := by decide +kernel
theorem dX10_init_19 : decode cX10_init 19 = .ok (.iconst 0, 1) := by decide +kernel
theorem dX10_init_20 : decode cX10_init 20 = .ok (.putfield 18, 3) := by decide +kernel
theorem dX10_init_23 : decode cX10_init 23 = .ok (.aload_n 0, 1) := by decide +kernel
theorem dX10_init_24 : decode cX10_init 24 = .ok (.iconst 0, 1) := by decide +kernel
theorem dX10_init_25 : decode cX10_init 25 = .ok (.putfield 22, 3) := by decide +kernel
theorem dX10_init_28 : decode cX10_init 28 = .ok (.aload_n 0, 1) := by decide +kernel
theorem dX10_init_29 : decode cX10_init 29 = .ok (.iload_n 1, 1) := by decide +kernel
theorem dX10_init_30 : decode cX10_init 30 = .ok (.putfield 25, 3) := by decide +kernel
theorem dX10_init_33 : decode cX10_init 33 = .ok (.aload_n 0, 1) := by decide +kernel
theorem dX10_init_34 : decode cX10_init 34 = .ok (.iload_n 2, 1) := by decide +kernel
theorem dX10_init_35 : decode cX10_init 35 = .ok (.putfield 28, 3) := by decide +kernel
theorem dX10_init_38 : decode cX10_init 38 = .ok (.aload_n 0, 1) := by decide +kernel
theorem dX10_init_39 : decode cX10_init 39 = .ok (.iload_n 3, 1) := by decide +kernel
theorem dX10_init_40 : decode cX10_init 40 = .ok (.putfield 31, 3) := by decide +kernel
theorem dX10_init_43 : decode cX10_init 43 = .ok (.aload_n 0, 1) := by decide +kernel
theorem dX10_init_44 : decode cX10_init 44 = .ok (.iload 4, 2) := by decide +kernel
theorem dX10_init_46 : decode cX10_init 46 = .ok (.putfield 34, 3) := by decide +kernel
theorem dX10_init_49 : decode cX10_init 49 = .ok (.return_, 1) := by decide +kernel
theorem dX10_addArtist_0 : decode cX10_addArtist 0 = .ok (.aload_n 0, 1) := by decide +kernel
theorem dX10_addArtist_1 : decode cX10_addArtist 1 = .ok (.getfield 18, 3) := by decide +kernel
theorem dX10_addArtist_4 : decode cX10_addArtist 4 = .ok (.aload_n 0, 1) := by decide +kernel
theorem dX10_addArtist_5 : decode cX10_addArtist 5 = .ok (.getfield 9, 3) := by decide +kernel
theorem dX10_addArtist_8 : decode cX10_addArtist 8 = .ok (.arraylength, 1) := by decide +kernel
theorem dX10_addArtist_9 : decode cX10_addArtist 9 = .ok (.if_icmp .ge 43, 3) := by decide +kernel
theorem dX10_addArtist_12 : decode cX10_addArtist 12 = .ok (.aload_n 0, 1) := by decide +kernel
theorem dX10_addArtist_13 : decode cX10_addArtist 13 = .ok (.getfield 9, 3) := by decide +kernel
theorem dX10_addArtist_16 : decode cX10_addArtist 16 = .ok (.aload_n 0, 1) := by decide +kernel
theorem dX10_addArtist_17 : decode cX10_addArtist 17 = .ok (.getfield 18, 3) := by decide +kernel
theorem dX10_addArtist_20 : decode cX10_addArtist 20 = .ok (.iload_n 1, 1) := by decide +kernel
theorem dX10_addArtist_21 : decode cX10_addArtist 21 = .ok (.iastore, 1) := by decide +kernel
theorem dX10_addArtist_22 : decode cX10_addArtist 22 = .ok (.aload_n 0, 1) := by decide +kernel
theorem dX10_addArtist_23 : decode cX10_addArtist 23 = .ok (.getfield 15, 3) := by decide +kernel
theorem dX10_addArtist_26 : decode cX10_addArtist 26 = .ok (.aload_n 0, 1) := by decide +kernel
theorem dX10_addArtist_27 : decode cX10_addArtist 27 = .ok (.getfield 18, 3) := by decide +kernel
theorem dX10_addArtist_30 : decode cX10_addArtist 30 = .ok (.iload_n 2, 1) := by decide +kernel
theorem dX10_addArtist_31 : decode cX10_addArtist 31 = .ok (.iastore, 1) := by decide +kernel
theorem dX10_addArtist_32 : decode cX10_addArtist 32 = .ok (.aload_n 0, 1) := by decide +kernel
theorem dX10_addArtist_33 : decode cX10_addArtist 33 = .ok (.dup, 1) := by decide +kernel
theorem dX10_addArtist_34 : decode cX10_addArtist 34 = .ok (.getfield 18, 3) := by decide +kernel
theorem dX10_addArtist_37 : decode cX10_addArtist 37 = .ok (.iconst 1, 1) := by decide +kernel
theorem dX10_addArtist_38 : decode cX10_addArtist 38 = .ok (.iadd, 1) := by decide +kernel
theorem dX10_addArtist_39 : decode cX10_addArtist 39 = .ok (.putfield 18, 3) := by decide +kernel
theorem dX10_addArtist_42 : decode cX10_addArtist 42 = .ok (.aload_n 0, 1) := by decide +kernel
theorem dX10_addArtist_43 : decode cX10_addArtist 43 = .ok (.dup, 1) := by decide +kernel
theorem dX10_addArtist_44 : decode cX10_addArtist 44 = .ok (.getfield 22, 3) := by decide +kernel
theorem dX10_addArtist_47 : decode cX10_addArtist 47 = .ok (.iload_n 2, 1) := by decide +kernel
theorem dX10_addArtist_48 : decode cX10_addArtist 48 = .ok (.iadd, 1) := by decide +kernel
theorem dX10_addArtist_49 : decode cX10_addArtist 49 = .ok (.putfield 22, 3) := by decide +kernel
theorem dX10_addArtist_52 : decode cX10_addArtist 52 = .ok (.return_, 1) := by decide +kernel
theorem dX10_weightOf_0 : decode cX10_weightOf 0 = .ok (.iconst 0, 1) := by decide +kernel
theorem dX10_weightOf_1 : decode cX10_weightOf 1 = .ok (.istore_n 2, 1) := by decide +kernel
theorem dX10_weightOf_2 : decode cX10_weightOf 2 = .ok (.iload_n 2, 1) := by decide +kernel
theorem dX10_weightOf_3 : decode cX10_weightOf 3 = .ok (.aload_n 0, 1) := by decide +kernel
theorem dX10_weightOf_4 : decode cX10_weightOf 4 = .ok (.getfield 18, 3) := by decide +kernel
theorem dX10_weightOf_7 : decode cX10_weightOf 7 = .ok (.if_icmp .ge 35, 3) := by decide +kernel
theorem dX10_weightOf_10 : decode cX10_weightOf 10 = .ok (.iload_n 2, 1) := by decide +kernel
theorem dX10_weightOf_11 : decode cX10_weightOf 11 = .ok (.aload_n 0, 1) := by decide +kernel
theorem dX10_weightOf_12 : decode cX10_weightOf 12 = .ok (.getfield 9, 3) := by decide +kernel
theorem dX10_weightOf_15 : decode cX10_weightOf 15 = .ok (.arraylength, 1) := by decide +kernel
theorem dX10_weightOf_16 : decode cX10_weightOf 16 = .ok (.if_icmp .ge 26, 3) := by decide +kernel
theorem dX10_weightOf_19 : decode cX10_weightOf 19 = .ok (.aload_n 0, 1) := by decide +kernel
theorem dX10_weightOf_20 : decode cX10_weightOf 20 = .ok (.getfield 9, 3) := by decide +kernel
theorem dX10_weightOf_23 : decode cX10_weightOf 23 = .ok (.iload_n 2, 1) := by decide +kernel
theorem dX10_weightOf_24 : decode cX10_weightOf 24 = .ok (.iaload, 1) := by decide +kernel
theorem dX10_weightOf_25 : decode cX10_weightOf 25 = .ok (.iload_n 1, 1) := by decide +kernel
theorem dX10_weightOf_26 : decode cX10_weightOf 26 = .ok (.if_icmp .ne 10, 3) := by decide +kernel
theorem dX10_weightOf_29 : decode cX10_weightOf 29 = .ok (.aload_n 0, 1) := by decide +kernel
theorem dX10_weightOf_30 : decode cX10_weightOf 30 = .ok (.getfield 15, 3) := by decide +kernel
theorem dX10_weightOf_33 : decode cX10_weightOf 33 = .ok (.iload_n 2, 1) := by decide +kernel
theorem dX10_weightOf_34 : decode cX10_weightOf 34 = .ok (.iaload, 1) := by decide +kernel
theorem dX10_weightOf_35 : decode cX10_weightOf 35 = .ok (.ireturn, 1) := by decide +kernel
theorem dX10_weightOf_36 : decode cX10_weightOf 36 = .ok (.iinc 2 1, 3) := by decide +kernel
theorem dX10_weightOf_39 : decode cX10_weightOf 39 = .ok (.goto (-37), 3) := by decide +kernel
theorem dX10_weightOf_42 : decode cX10_weightOf 42 = .ok (.iconst 0, 1) := by decide +kernel
theorem dX10_weightOf_43 : decode cX10_weightOf 43 = .ok (.ireturn, 1) := by decide +kernel
theorem dX10_isBy_0 : decode cX10_isBy 0 = .ok (.aload_n 0, 1) := by decide +kernel
theorem dX10_isBy_1 : decode cX10_isBy 1 = .ok (.iload_n 1, 1) := by decide +kernel
theorem dX10_isBy_2 : decode cX10_isBy 2 = .ok (.invokevirtual 37, 3) := by decide +kernel
theorem dX10_isBy_5 : decode cX10_isBy 5 = .ok (.ifCond .eq 7, 3) := by decide +kernel
theorem dX10_isBy_8 : decode cX10_isBy 8 = .ok (.iconst 1, 1) := by decide +kernel
theorem dX10_isBy_9 : decode cX10_isBy 9 = .ok (.goto 4, 3) := by decide +kernel
theorem dX10_isBy_12 : decode cX10_isBy 12 = .ok (.iconst 0, 1) := by decide +kernel
theorem dX10_isBy_13 : decode cX10_isBy 13 = .ok (.ireturn, 1) := by decide +kernel
theorem dX10_mayBe_0 : decode cX10_mayBe 0 = .ok (.iload_n 1, 1) := by decide +kernel
theorem dX10_mayBe_1 : decode cX10_mayBe 1 = .ok (.aload_n 0, 1) := by decide +kernel
theorem dX10_mayBe_2 : decode cX10_mayBe 2 = .ok (.getfield 28, 3) := by decide +kernel
theorem dX10_mayBe_5 : decode cX10_mayBe 5 = .ok (.iconst (-1), 1) := by decide +kernel
theorem dX10_mayBe_6 : decode cX10_mayBe 6 = .ok (.ixor, 1) := by decide +kernel
theorem dX10_mayBe_7 : decode cX10_mayBe 7 = .ok (.iand, 1) := by decide +kernel
theorem dX10_mayBe_8 : decode cX10_mayBe 8 = .ok (.ifCond .ne 43, 3) := by decide +kernel
theorem dX10_mayBe_11 : decode cX10_mayBe 11 = .ok (.iload_n 2, 1) := by decide +kernel
theorem dX10_mayBe_12 : decode cX10_mayBe 12 = .ok (.i2l, 1) := by decide +kernel
theorem dX10_mayBe_13 : decode cX10_mayBe 13 = .ok (.aload_n 0, 1) := by decide +kernel
theorem dX10_mayBe_14 : decode cX10_mayBe 14 = .ok (.getfield 31, 3) := by decide +kernel
theorem dX10_mayBe_17 : decode cX10_mayBe 17 = .ok (.i2l, 1) := by decide +kernel
theorem dX10_mayBe_18 : decode cX10_mayBe 18 = .ok (.lsub, 1) := by decide +kernel
theorem dX10_mayBe_19 : decode cX10_mayBe 19 = .ok (.invokestatic 41, 3) := by decide +kernel
theorem dX10_mayBe_22 : decode cX10_mayBe 22 = .ok (.iload 4, 2) := by decide +kernel
theorem dX10_mayBe_24 : decode cX10_mayBe 24 = .ok (.i2l, 1) := by decide +kernel
theorem dX10_mayBe_25 : decode cX10_mayBe 25 = .ok (.lcmp, 1) := by decide +kernel
theorem dX10_mayBe_26 : decode cX10_mayBe 26 = .ok (.ifCond .gt 25, 3) := by decide +kernel
theorem dX10_mayBe_29 : decode cX10_mayBe 29 = .ok (.iload_n 3, 1) := by decide +kernel
theorem dX10_mayBe_30 : decode cX10_mayBe 30 = .ok (.i2l, 1) := by decide +kernel
theorem dX10_mayBe_31 : decode cX10_mayBe 31 = .ok (.aload_n 0, 1) := by decide +kernel
theorem dX10_mayBe_32 : decode cX10_mayBe 32 = .ok (.getfield 34, 3) := by decide +kernel
theorem dX10_mayBe_35 : decode cX10_mayBe 35 = .ok (.i2l, 1) := by decide +kernel
theorem dX10_mayBe_36 : decode cX10_mayBe 36 = .ok (.lsub, 1) := by decide +kernel
theorem dX10_mayBe_37 : decode cX10_mayBe 37 = .ok (.invokestatic 41, 3) := by decide +kernel
theorem dX10_mayBe_40 : decode cX10_mayBe 40 = .ok (.iload 4, 2) := by decide +kernel
theorem dX10_mayBe_42 : decode cX10_mayBe 42 = .ok (.i2l, 1) := by decide +kernel
theorem dX10_mayBe_43 : decode cX10_mayBe 43 = .ok (.lcmp, 1) := by decide +kernel
theorem dX10_mayBe_44 : decode cX10_mayBe 44 = .ok (.ifCond .gt 7, 3) := by decide +kernel
theorem dX10_mayBe_47 : decode cX10_mayBe 47 = .ok (.iconst 1, 1) := by decide +kernel
theorem dX10_mayBe_48 : decode cX10_mayBe 48 = .ok (.goto 4, 3) := by decide +kernel
theorem dX10_mayBe_51 : decode cX10_mayBe 51 = .ok (.iconst 0, 1) := by decide +kernel
theorem dX10_mayBe_52 : decode cX10_mayBe 52 = .ok (.ireturn, 1) := by decide +kernel
theorem dX11_init_0 : decode cX11_init 0 = .ok (.aload_n 0, 1) := by decide +kernel
theorem dX11_init_1 : decode cX11_init 1 = .ok (.invokespecial 1, 3) := by decide +kernel
theorem dX11_init_4 : decode cX11_init 4 = .ok (.aload_n 0, 1) := by decide +kernel
theorem dX11_init_5 : decode cX11_init 5 = .ok (.new 7, 3) := by decide +kernel
theorem dX11_init_8 : decode cX11_init 8 = .ok (.dup, 1) := by decide +kernel
theorem dX11_init_9 : decode cX11_init 9 = .ok (.invokespecial 9, 3) := by decide +kernel
theorem dX11_init_12 : decode cX11_init 12 = .ok (.putfield 10, 3) := by decide +kernel
theorem dX11_init_15 : decode cX11_init 15 = .ok (.aload_n 0, 1) := by decide +kernel
theorem dX11_init_16 : decode cX11_init 16 = .ok (.new 16, 3) := by decide +kernel
theorem dX11_init_19 : decode cX11_init 19 = .ok (.dup, 1) := by decide +kernel
theorem dX11_init_20 : decode cX11_init 20 = .ok (.aload_n 0, 1) := by decide +kernel
theorem dX11_init_21 : decode cX11_init 21 = .ok (.getfield 10, 3) := by decide +kernel
theorem dX11_init_24 : decode cX11_init 24 = .ok (.invokespecial 18, 3) := by decide +kernel
theorem dX11_init_27 : decode cX11_init 27 = .ok (.putfield 21, 3) := by decide +kernel
theorem dX11_init_30 : decode cX11_init 30 = .ok (.aload_n 0, 1) := by decide +kernel
theorem dX11_init_31 : decode cX11_init 31 = .ok (.new 25, 3) := by decide +kernel
theorem dX11_init_34 : decode cX11_init 34 = .ok (.dup, 1) := by decide +kernel
theorem dX11_init_35 : decode cX11_init 35 = .ok (.aload_n 0, 1) := by decide +kernel
theorem dX11_init_36 : decode cX11_init 36 = .ok (.getfield 10, 3) := by decide +kernel
theorem dX11_init_39 : decode cX11_init 39 = .ok (.aload_n 0, 1) := by decide +kernel
theorem dX11_init_40 : decode cX11_init 40 = .ok (.getfield 21, 3) := by decide +kernel
theorem dX11_init_43 : decode cX11_init 43 = .ok (.invokespecial 27, 3) := by decide +kernel
theorem dX11_init_46 : decode cX11_init 46 = .ok (.putfield 30, 3) := by decide +kernel
theorem dX11_init_49 : decode cX11_init 49 = .ok (.aload_n 0, 1) := by decide +kernel
theorem dX11_init_50 : decode cX11_init 50 = .ok (.new 34, 3) := by decide +kernel
theorem dX11_init_53 : decode cX11_init 53 = .ok (.dup, 1) := by decide +kernel
theorem dX11_init_54 : decode cX11_init 54 = .ok (.invokespecial 36, 3) := by decide +kernel
theorem dX11_init_57 : decode cX11_init 57 = .ok (.putfield 37, 3) := by decide +kernel
theorem dX11_init_60 : decode cX11_init 60 = .ok (.aload_n 0, 1) := by decide +kernel
theorem dX11_init_61 : decode cX11_init 61 = .ok (.sipush 500, 3) := by decide +kernel
theorem dX11_init_64 : decode cX11_init 64 = .ok (.newarray .int, 2) := by decide +kernel
theorem dX11_init_66 : decode cX11_init 66 = .ok (.putfield 41, 3) := by decide +kernel
theorem dX11_init_69 : decode cX11_init 69 = .ok (.aload_n 0, 1) := by decide +kernel
theorem dX11_init_70 : decode cX11_init 70 = .ok (.iconst 0, 1) := by decide +kernel
theorem dX11_init_71 : decode cX11_init 71 = .ok (.putfield 45, 3) := by decide +kernel
theorem dX11_init_74 : decode cX11_init 74 = .ok (.aload_n 0, 1) := by decide +kernel
theorem dX11_init_75 : decode cX11_init 75 = .ok (.iconst (-1), 1) := by decide +kernel
theorem dX11_init_76 : decode cX11_init 76 = .ok (.putfield 49, 3) := by decide +kernel
theorem dX11_init_79 : decode cX11_init 79 = .ok (.aload_n 0, 1) := by decide +kernel
theorem dX11_init_80 : decode cX11_init 80 = .ok (.new 52, 3) := by decide +kernel
theorem dX11_init_83 : decode cX11_init 83 = .ok (.dup, 1) := by decide +kernel
theorem dX11_init_84 : decode cX11_init 84 = .ok (.invokespecial 54, 3) := by decide +kernel
theorem dX11_init_87 : decode cX11_init 87 = .ok (.putfield 55, 3) := by decide +kernel
theorem dX11_init_90 : decode cX11_init 90 = .ok (.aload_n 0, 1) := by decide +kernel
theorem dX11_init_91 : decode cX11_init 91 = .ok (.bipush 30, 2) := by decide +kernel
theorem dX11_init_93 : decode cX11_init 93 = .ok (.newarray .long, 2) := by decide +kernel
theorem dX11_init_95 : decode cX11_init 95 = .ok (.putfield 59, 3) := by decide +kernel
theorem dX11_init_98 : decode cX11_init 98 = .ok (.return_, 1) := by decide +kernel
theorem dX11_land_0 : decode cX11_land 0 = .ok (.aload_n 0, 1) := by decide +kernel
theorem dX11_land_1 : decode cX11_land 1 = .ok (.getfield 10, 3) := by decide +kernel
theorem dX11_land_4 : decode cX11_land 4 = .ok (.getfield 63, 3) := by decide +kernel
theorem dX11_land_7 : decode cX11_land 7 = .ok (.bipush 6, 2) := by decide +kernel
theorem dX11_land_9 : decode cX11_land 9 = .ok (.if_icmp .lt 5, 3) := by decide +kernel
theorem dX11_land_12 : decode cX11_land 12 = .ok (.iconst (-1), 1) := by decide +kernel
theorem dX11_land_13 : decode cX11_land 13 = .ok (.ireturn, 1) := by decide +kernel
theorem dX11_land_14 : decode cX11_land 14 = .ok (.aload_n 0, 1) := by decide +kernel
theorem dX11_land_15 : decode cX11_land 15 = .ok (.getfield 10, 3) := by decide +kernel
theorem dX11_land_18 : decode cX11_land 18 = .ok (.dup, 1) := by decide +kernel
theorem dX11_land_19 : decode cX11_land 19 = .ok (.getfield 63, 3) := by decide +kernel
theorem dX11_land_22 : decode cX11_land 22 = .ok (.iconst 1, 1) := by decide +kernel
theorem dX11_land_23 : decode cX11_land 23 = .ok (.iadd, 1) := by decide +kernel
theorem dX11_land_24 : decode cX11_land 24 = .ok (.putfield 63, 3) := by decide +kernel
theorem dX11_land_27 : decode cX11_land 27 = .ok (.aload_n 0, 1) := by decide +kernel
theorem dX11_land_28 : decode cX11_land 28 = .ok (.getfield 10, 3) := by decide +kernel
theorem dX11_land_31 : decode cX11_land 31 = .ok (.getfield 63, 3) := by decide +kernel
theorem dX11_land_34 : decode cX11_land 34 = .ok (.iconst 1, 1) := by decide +kernel
theorem dX11_land_35 : decode cX11_land 35 = .ok (.isub, 1) := by decide +kernel
theorem dX11_land_36 : decode cX11_land 36 = .ok (.ireturn, 1) := by decide +kernel
theorem dX11_rate_0 : decode cX11_rate 0 = .ok (.aload_n 0, 1) := by decide +kernel
theorem dX11_rate_1 : decode cX11_rate 1 = .ok (.iload_n 1, 1) := by decide +kernel
theorem dX11_rate_2 : decode cX11_rate 2 = .ok (.invokevirtual 66, 3) := by decide +kernel
theorem dX11_rate_5 : decode cX11_rate 5 = .ok (.aload_n 0, 1) := by decide +kernel
theorem dX11_rate_6 : decode cX11_rate 6 = .ok (.getfield 10, 3) := by decide +kernel
theorem dX11_rate_9 : decode cX11_rate 9 = .ok (.getfield 70, 3) := by decide +kernel
theorem dX11_rate_12 : decode cX11_rate 12 = .ok (.bipush 60, 2) := by decide +kernel
theorem dX11_rate_14 : decode cX11_rate 14 = .ok (.if_icmp .ge 20, 3) := by decide +kernel
theorem dX11_rate_17 : decode cX11_rate 17 = .ok (.iload_n 2, 1) := by decide +kernel
theorem dX11_rate_18 : decode cX11_rate 18 = .ok (.invokestatic 73, 3) := by decide +kernel
theorem dX11_rate_21 : decode cX11_rate 21 = .ok (.ifCond .eq 13, 3) := by decide +kernel
theorem dX11_rate_24 : decode cX11_rate 24 = .ok (.iload_n 3, 1) := by decide +kernel
theorem dX11_rate_25 : decode cX11_rate 25 = .ok (.iconst 1, 1) := by decide +kernel
theorem dX11_rate_26 : decode cX11_rate 26 = .ok (.ldc 77, 2) := by decide +kernel
theorem dX11_rate_28 : decode cX11_rate 28 = .ok (.invokestatic 78, 3) := by decide +kernel
theorem dX11_rate_31 : decode cX11_rate 31 = .ok (.ifCond .ne 5, 3) := by decide +kernel
theorem dX11_rate_34 : decode cX11_rate 34 = .ok (.iconst 0, 1) := by decide +kernel
theorem dX11_rate_35 : decode cX11_rate 35 = .ok (.ireturn, 1) := by decide +kernel
theorem dX11_rate_36 : decode cX11_rate 36 = .ok (.aload_n 0, 1) := by decide +kernel
theorem dX11_rate_37 : decode cX11_rate 37 = .ok (.getfield 10, 3) := by decide +kernel
theorem dX11_rate_40 : decode cX11_rate 40 = .ok (.getfield 82, 3) := by decide +kernel
theorem dX11_rate_43 : decode cX11_rate 43 = .ok (.aload_n 0, 1) := by decide +kernel
theorem dX11_rate_44 : decode cX11_rate 44 = .ok (.getfield 10, 3) := by decide +kernel
theorem dX11_rate_47 : decode cX11_rate 47 = .ok (.getfield 70, 3) := by decide +kernel
theorem dX11_rate_50 : decode cX11_rate 50 = .ok (.new 86, 3) := by decide +kernel
theorem dX11_rate_53 : decode cX11_rate 53 = .ok (.dup, 1) := by decide +kernel
theorem dX11_rate_54 : decode cX11_rate 54 = .ok (.iload_n 1, 1) := by decide +kernel
theorem dX11_rate_55 : decode cX11_rate 55 = .ok (.iload_n 2, 1) := by decide +kernel
theorem dX11_rate_56 : decode cX11_rate 56 = .ok (.iload_n 3, 1) := by decide +kernel
theorem dX11_rate_57 : decode cX11_rate 57 = .ok (.invokespecial 88, 3) := by decide +kernel
theorem dX11_rate_60 : decode cX11_rate 60 = .ok (.aastore, 1) := by decide +kernel
theorem dX11_rate_61 : decode cX11_rate 61 = .ok (.aload_n 0, 1) := by decide +kernel
theorem dX11_rate_62 : decode cX11_rate 62 = .ok (.getfield 10, 3) := by decide +kernel
theorem dX11_rate_65 : decode cX11_rate 65 = .ok (.dup, 1) := by decide +kernel
theorem dX11_rate_66 : decode cX11_rate 66 = .ok (.getfield 70, 3) := by decide +kernel
theorem dX11_rate_69 : decode cX11_rate 69 = .ok (.iconst 1, 1) := by decide +kernel
theorem dX11_rate_70 : decode cX11_rate 70 = .ok (.iadd, 1) := by decide +kernel
theorem dX11_rate_71 : decode cX11_rate 71 = .ok (.putfield 70, 3) := by decide +kernel
theorem dX11_rate_74 : decode cX11_rate 74 = .ok (.iconst 1, 1) := by decide +kernel
theorem dX11_rate_75 : decode cX11_rate 75 = .ok (.ireturn, 1) := by decide +kernel
theorem dX11_person_0 : decode cX11_person 0 = .ok (.aload_n 0, 1) := by decide +kernel
theorem dX11_person_1 : decode cX11_person 1 = .ok (.iload_n 1, 1) := by decide +kernel
theorem dX11_person_2 : decode cX11_person 2 = .ok (.invokevirtual 66, 3) := by decide +kernel
theorem dX11_person_5 : decode cX11_person 5 = .ok (.aload_n 0, 1) := by decide +kernel
theorem dX11_person_6 : decode cX11_person 6 = .ok (.getfield 10, 3) := by decide +kernel
theorem dX11_person_9 : decode cX11_person 9 = .ok (.getfield 91, 3) := by decide +kernel
theorem dX11_person_12 : decode cX11_person 12 = .ok (.bipush 30, 2) := by decide +kernel
theorem dX11_person_14 : decode cX11_person 14 = .ok (.if_icmp .ge 12, 3) := by decide +kernel
theorem dX11_person_17 : decode cX11_person 17 = .ok (.iload_n 2, 1) := by decide +kernel
theorem dX11_person_18 : decode cX11_person 18 = .ok (.iconst 0, 1) := by decide +kernel
theorem dX11_person_19 : decode cX11_person 19 = .ok (.iconst 2, 1) := by decide +kernel
theorem dX11_person_20 : decode cX11_person 20 = .ok (.invokestatic 78, 3) := by decide +kernel
theorem dX11_person_23 : decode cX11_person 23 = .ok (.ifCond .ne 5, 3) := by decide +kernel
theorem dX11_person_26 : decode cX11_person 26 = .ok (.iconst (-1), 1) := by decide +kernel
theorem dX11_person_27 : decode cX11_person 27 = .ok (.ireturn, 1) := by decide +kernel
theorem dX11_person_28 : decode cX11_person 28 = .ok (.aload_n 0, 1) := by decide +kernel
theorem dX11_person_29 : decode cX11_person 29 = .ok (.getfield 10, 3) := by decide +kernel
theorem dX11_person_32 : decode cX11_person 32 = .ok (.getfield 94, 3) := by decide +kernel
theorem dX11_person_35 : decode cX11_person 35 = .ok (.aload_n 0, 1) := by decide +kernel
theorem dX11_person_36 : decode cX11_person 36 = .ok (.getfield 10, 3) := by decide +kernel
theorem dX11_person_39 : decode cX11_person 39 = .ok (.getfield 91, 3) := by decide +kernel
theorem dX11_person_42 : decode cX11_person 42 = .ok (.new 98, 3) := by decide +kernel
theorem dX11_person_45 : decode cX11_person 45 = .ok (.dup, 1) := by decide +kernel
theorem dX11_person_46 : decode cX11_person 46 = .ok (.iload_n 1, 1) := by decide +kernel
theorem dX11_person_47 : decode cX11_person 47 = .ok (.iload_n 2, 1) := by decide +kernel
theorem dX11_person_48 : decode cX11_person 48 = .ok (.invokespecial 100, 3) := by decide +kernel
theorem dX11_person_51 : decode cX11_person 51 = .ok (.aastore, 1) := by decide +kernel
theorem dX11_person_52 : decode cX11_person 52 = .ok (.aload_n 0, 1) := by decide +kernel
theorem dX11_person_53 : decode cX11_person 53 = .ok (.getfield 10, 3) := by decide +kernel
theorem dX11_person_56 : decode cX11_person 56 = .ok (.dup, 1) := by decide +kernel
theorem dX11_person_57 : decode cX11_person 57 = .ok (.getfield 91, 3) := by decide +kernel
theorem dX11_person_60 : decode cX11_person 60 = .ok (.iconst 1, 1) := by decide +kernel
theorem dX11_person_61 : decode cX11_person 61 = .ok (.iadd, 1) := by decide +kernel
theorem dX11_person_62 : decode cX11_person 62 = .ok (.putfield 91, 3) := by decide +kernel
theorem dX11_person_65 : decode cX11_person 65 = .ok (.aload_n 0, 1) := by decide +kernel
theorem dX11_person_66 : decode cX11_person 66 = .ok (.getfield 10, 3) := by decide +kernel
theorem dX11_person_69 : decode cX11_person 69 = .ok (.getfield 91, 3) := by decide +kernel
theorem dX11_person_72 : decode cX11_person 72 = .ok (.iconst 1, 1) := by decide +kernel
theorem dX11_person_73 : decode cX11_person 73 = .ok (.isub, 1) := by decide +kernel
theorem dX11_person_74 : decode cX11_person 74 = .ok (.ireturn, 1) := by decide +kernel
theorem dX11_work_0 : decode cX11_work 0 = .ok (.aload_n 0, 1) := by decide +kernel
theorem dX11_work_1 : decode cX11_work 1 = .ok (.iload_n 1, 1) := by decide +kernel
theorem dX11_work_2 : decode cX11_work 2 = .ok (.invokevirtual 103, 3) := by decide +kernel
theorem dX11_work_5 : decode cX11_work 5 = .ok (.iload_n 2, 1) := by decide +kernel
theorem dX11_work_6 : decode cX11_work 6 = .ok (.iconst 1, 1) := by decide +kernel
theorem dX11_work_7 : decode cX11_work 7 = .ok (.bipush 9, 2) := by decide +kernel
theorem dX11_work_9 : decode cX11_work 9 = .ok (.invokestatic 78, 3) := by decide +kernel
theorem dX11_work_12 : decode cX11_work 12 = .ok (.ifCond .eq 52, 3) := by decide +kernel
theorem dX11_work_15 : decode cX11_work 15 = .ok (.iload_n 3, 1) := by decide +kernel
theorem dX11_work_16 : decode cX11_work 16 = .ok (.iconst 1, 1) := by decide +kernel
theorem dX11_work_17 : decode cX11_work 17 = .ok (.bipush 99, 2) := by decide +kernel
theorem dX11_work_19 : decode cX11_work 19 = .ok (.invokestatic 78, 3) := by decide +kernel
theorem dX11_work_22 : decode cX11_work 22 = .ok (.ifCond .eq 42, 3) := by decide +kernel
theorem dX11_work_25 : decode cX11_work 25 = .ok (.iload 4, 2) := by decide +kernel
theorem dX11_work_27 : decode cX11_work 27 = .ok (.iconst 0, 1) := by decide +kernel
theorem dX11_work_28 : decode cX11_work 28 = .ok (.ldc 106, 2) := by decide +kernel
theorem dX11_work_30 : decode cX11_work 30 = .ok (.invokestatic 78, 3) := by decide +kernel
theorem dX11_work_33 : decode cX11_work 33 = .ok (.ifCond .eq 31, 3) := by decide +kernel
theorem dX11_work_36 : decode cX11_work 36 = .ok (.iload 5, 2) := by decide +kernel
theorem dX11_work_38 : decode cX11_work 38 = .ok (.iconst 1, 1) := by decide +kernel
theorem dX11_work_39 : decode cX11_work 39 = .ok (.sipush 999, 3) := by decide +kernel
theorem dX11_work_42 : decode cX11_work 42 = .ok (.invokestatic 78, 3) := by decide +kernel
theorem dX11_work_45 : decode cX11_work 45 = .ok (.ifCond .eq 19, 3) := by decide +kernel
theorem dX11_work_48 : decode cX11_work 48 = .ok (.iload 6, 2) := by decide +kernel
theorem dX11_work_50 : decode cX11_work 50 = .ok (.iconst 1, 1) := by decide +kernel
theorem dX11_work_51 : decode cX11_work 51 = .ok (.sipush 999, 3) := by decide +kernel
theorem dX11_work_54 : decode cX11_work 54 = .ok (.invokestatic 78, 3) := by decide +kernel
theorem dX11_work_57 : decode cX11_work 57 = .ok (.ifCond .eq 7, 3) := by decide +kernel
theorem dX11_work_60 : decode cX11_work 60 = .ok (.iconst 1, 1) := by decide +kernel
theorem dX11_work_61 : decode cX11_work 61 = .ok (.goto 4, 3) := by decide +kernel
theorem dX11_work_64 : decode cX11_work 64 = .ok (.iconst 0, 1) := by decide +kernel
theorem dX11_work_65 : decode cX11_work 65 = .ok (.istore 7, 2) := by decide +kernel
theorem dX11_work_67 : decode cX11_work 67 = .ok (.aload_n 0, 1) := by decide +kernel
theorem dX11_work_68 : decode cX11_work 68 = .ok (.getfield 10, 3) := by decide +kernel
theorem dX11_work_71 : decode cX11_work 71 = .ok (.getfield 107, 3) := by decide +kernel
theorem dX11_work_74 : decode cX11_work 74 = .ok (.bipush 30, 2) := by decide +kernel
theorem dX11_work_76 : decode cX11_work 76 = .ok (.if_icmp .ge 8, 3) := by decide +kernel
theorem dX11_work_79 : decode cX11_work 79 = .ok (.iload 7, 2) := by decide +kernel
theorem dX11_work_81 : decode cX11_work 81 = .ok (.ifCond .ne 5, 3) := by decide +kernel
theorem dX11_work_84 : decode cX11_work 84 = .ok (.iconst (-1), 1) := by decide +kernel
theorem dX11_work_85 : decode cX11_work 85 = .ok (.ireturn, 1) := by decide +kernel
theorem dX11_work_86 : decode cX11_work 86 = .ok (.new 110, 3) := by decide +kernel
theorem dX11_work_89 : decode cX11_work 89 = .ok (.dup, 1) := by decide +kernel
theorem dX11_work_90 : decode cX11_work 90 = .ok (.iload_n 3, 1) := by decide +kernel
theorem dX11_work_91 : decode cX11_work 91 = .ok (.iload 4, 2) := by decide +kernel
theorem dX11_work_93 : decode cX11_work 93 = .ok (.iload 5, 2) := by decide +kernel
theorem dX11_work_95 : decode cX11_work 95 = .ok (.iload 6, 2) := by decide +kernel
theorem dX11_work_97 : decode cX11_work 97 = .ok (.invokespecial 112, 3) := by decide +kernel
theorem dX11_work_100 : decode cX11_work 100 = .ok (.astore 8, 2) := by decide +kernel
theorem dX11_work_102 : decode cX11_work 102 = .ok (.aload 8, 2) := by decide +kernel
theorem dX11_work_104 : decode cX11_work 104 = .ok (.iload_n 1, 1) := by decide +kernel
theorem dX11_work_105 : decode cX11_work 105 = .ok (.iload_n 2, 1) := by decide +kernel
theorem dX11_work_106 : decode cX11_work 106 = .ok (.invokevirtual 115, 3) := by decide +kernel
theorem dX11_work_109 : decode cX11_work 109 = .ok (.aload_n 0, 1) := by decide +kernel
theorem dX11_work_110 : decode cX11_work 110 = .ok (.getfield 10, 3) := by decide +kernel
theorem dX11_work_113 : decode cX11_work 113 = .ok (.getfield 118, 3) := by decide +kernel
theorem dX11_work_116 : decode cX11_work 116 = .ok (.aload_n 0, 1) := by decide +kernel
theorem dX11_work_117 : decode cX11_work 117 = .ok (.getfield 10, 3) := by decide +kernel
theorem dX11_work_120 : decode cX11_work 120 = .ok (.getfield 107, 3) := by decide +kernel
theorem dX11_work_123 : decode cX11_work 123 = .ok (.aload 8, 2) := by decide +kernel
theorem dX11_work_125 : decode cX11_work 125 = .ok (.aastore, 1) := by decide +kernel
theorem dX11_work_126 : decode cX11_work 126 = .ok (.aload_n 0, 1) := by decide +kernel
theorem dX11_work_127 : decode cX11_work 127 = .ok (.getfield 10, 3) := by decide +kernel
theorem dX11_work_130 : decode cX11_work 130 = .ok (.dup, 1) := by decide +kernel
theorem dX11_work_131 : decode cX11_work 131 = .ok (.getfield 107, 3) := by decide +kernel
theorem dX11_work_134 : decode cX11_work 134 = .ok (.iconst 1, 1) := by decide +kernel
theorem dX11_work_135 : decode cX11_work 135 = .ok (.iadd, 1) := by decide +kernel
theorem dX11_work_136 : decode cX11_work 136 = .ok (.putfield 107, 3) := by decide +kernel
theorem dX11_work_139 : decode cX11_work 139 = .ok (.aload_n 0, 1) := by decide +kernel
theorem dX11_work_140 : decode cX11_work 140 = .ok (.getfield 10, 3) := by decide +kernel
theorem dX11_work_143 : decode cX11_work 143 = .ok (.getfield 107, 3) := by decide +kernel
theorem dX11_work_146 : decode cX11_work 146 = .ok (.iconst 1, 1) := by decide +kernel
theorem dX11_work_147 : decode cX11_work 147 = .ok (.isub, 1) := by decide +kernel
theorem dX11_work_148 : decode cX11_work 148 = .ok (.ireturn, 1) := by decide +kernel
theorem dX11_joins_0 : decode cX11_joins 0 = .ok (.aload_n 0, 1) := by decide +kernel
theorem dX11_joins_1 : decode cX11_joins 1 = .ok (.iload_n 1, 1) := by decide +kernel
theorem dX11_joins_2 : decode cX11_joins 2 = .ok (.invokevirtual 122, 3) := by decide +kernel
theorem dX11_joins_5 : decode cX11_joins 5 = .ok (.aload_n 0, 1) := by decide +kernel
theorem dX11_joins_6 : decode cX11_joins 6 = .ok (.iload_n 2, 1) := by decide +kernel
theorem dX11_joins_7 : decode cX11_joins 7 = .ok (.invokevirtual 103, 3) := by decide +kernel
theorem dX11_joins_10 : decode cX11_joins 10 = .ok (.aload_n 0, 1) := by decide +kernel
theorem dX11_joins_11 : decode cX11_joins 11 = .ok (.getfield 10, 3) := by decide +kernel
theorem dX11_joins_14 : decode cX11_joins 14 = .ok (.iload_n 1, 1) := by decide +kernel
theorem dX11_joins_15 : decode cX11_joins 15 = .ok (.invokevirtual 125, 3) := by decide +kernel
theorem dX11_joins_18 : decode cX11_joins 18 = .ok (.astore 4, 2) := by decide +kernel
theorem dX11_joins_20 : decode cX11_joins 20 = .ok (.aload 4, 2) := by decide +kernel
theorem dX11_joins_22 : decode cX11_joins 22 = .ok (.getfield 129, 3) := by decide +kernel
theorem dX11_joins_25 : decode cX11_joins 25 = .ok (.iconst 3, 1) := by decide +kernel
theorem dX11_joins_26 : decode cX11_joins 26 = .ok (.if_icmp .ge 27, 3) := by decide +kernel
theorem dX11_joins_29 : decode cX11_joins 29 = .ok (.aload 4, 2) := by decide +kernel
theorem dX11_joins_31 : decode cX11_joins 31 = .ok (.iload_n 2, 1) := by decide +kernel
theorem dX11_joins_32 : decode cX11_joins 32 = .ok (.invokevirtual 132, 3) := by decide +kernel
theorem dX11_joins_35 : decode cX11_joins 35 = .ok (.ifCond .ne 18, 3) := by decide +kernel
theorem dX11_joins_38 : decode cX11_joins 38 = .ok (.aload_n 0, 1) := by decide +kernel
theorem dX11_joins_39 : decode cX11_joins 39 = .ok (.getfield 10, 3) := by decide +kernel
theorem dX11_joins_42 : decode cX11_joins 42 = .ok (.iload_n 1, 1) := by decide +kernel
theorem dX11_joins_43 : decode cX11_joins 43 = .ok (.invokevirtual 135, 3) := by decide +kernel
theorem dX11_joins_46 : decode cX11_joins 46 = .ok (.ifCond .ne 7, 3) := by decide +kernel
theorem dX11_joins_49 : decode cX11_joins 49 = .ok (.iconst 1, 1) := by decide +kernel
theorem dX11_joins_50 : decode cX11_joins 50 = .ok (.goto 4, 3) := by decide +kernel
theorem dX11_joins_53 : decode cX11_joins 53 = .ok (.iconst 0, 1) := by decide +kernel
theorem dX11_joins_54 : decode cX11_joins 54 = .ok (.istore 5, 2) := by decide +kernel
theorem dX11_joins_56 : decode cX11_joins 56 = .ok (.iload 5, 2) := by decide +kernel
theorem dX11_joins_58 : decode cX11_joins 58 = .ok (.ifCond .eq 13, 3) := by decide +kernel
theorem dX11_joins_61 : decode cX11_joins 61 = .ok (.iload_n 3, 1) := by decide +kernel
theorem dX11_joins_62 : decode cX11_joins 62 = .ok (.iconst 1, 1) := by decide +kernel
theorem dX11_joins_63 : decode cX11_joins 63 = .ok (.bipush 9, 2) := by decide +kernel
theorem dX11_joins_65 : decode cX11_joins 65 = .ok (.invokestatic 78, 3) := by decide +kernel
theorem dX11_joins_68 : decode cX11_joins 68 = .ok (.ifCond .ne 5, 3) := by decide +kernel
theorem dX11_joins_71 : decode cX11_joins 71 = .ok (.iconst (-1), 1) := by decide +kernel
theorem dX11_joins_72 : decode cX11_joins 72 = .ok (.ireturn, 1) := by decide +kernel
theorem dX11_joins_73 : decode cX11_joins 73 = .ok (.aload 4, 2) := by decide +kernel
theorem dX11_joins_75 : decode cX11_joins 75 = .ok (.iload_n 2, 1) := by decide +kernel
theorem dX11_joins_76 : decode cX11_joins 76 = .ok (.iload_n 3, 1) := by decide +kernel
theorem dX11_joins_77 : decode cX11_joins 77 = .ok (.invokevirtual 115, 3) := by decide +kernel
theorem dX11_joins_80 : decode cX11_joins 80 = .ok (.aload 4, 2) := by decide +kernel
theorem dX11_joins_82 : decode cX11_joins 82 = .ok (.getfield 129, 3) := by decide +kernel
theorem dX11_joins_85 : decode cX11_joins 85 = .ok (.ireturn, 1) := by decide +kernel
theorem dX11_society_0 : decode cX11_society 0 = .ok (.aload_n 0, 1) := by decide +kernel
theorem dX11_society_1 : decode cX11_society 1 = .ok (.iload_n 1, 1) := by decide +kernel
theorem dX11_society_2 : decode cX11_society 2 = .ok (.invokevirtual 66, 3) := by decide +kernel
theorem dX11_society_5 : decode cX11_society 5 = .ok (.aload_n 0, 1) := by decide +kernel
theorem dX11_society_6 : decode cX11_society 6 = .ok (.getfield 10, 3) := by decide +kernel
theorem dX11_society_9 : decode cX11_society 9 = .ok (.getfield 138, 3) := by decide +kernel
theorem dX11_society_12 : decode cX11_society 12 = .ok (.iconst 5, 1) := by decide +kernel
theorem dX11_society_13 : decode cX11_society 13 = .ok (.if_icmp .ge 14, 3) := by decide +kernel
theorem dX11_society_16 : decode cX11_society 16 = .ok (.iload_n 2, 1) := by decide +kernel
theorem dX11_society_17 : decode cX11_society 17 = .ok (.iconst 0, 1) := by decide +kernel
theorem dX11_society_18 : decode cX11_society 18 = .ok (.sipush 300, 3) := by decide +kernel
theorem dX11_society_21 : decode cX11_society 21 = .ok (.invokestatic 78, 3) := by decide +kernel
theorem dX11_society_24 : decode cX11_society 24 = .ok (.ifCond .ne 5, 3) := by decide +kernel
theorem dX11_society_27 : decode cX11_society 27 = .ok (.iconst (-1), 1) := by decide +kernel
theorem dX11_society_28 : decode cX11_society 28 = .ok (.ireturn, 1) := by decide +kernel
theorem dX11_society_29 : decode cX11_society 29 = .ok (.aload_n 0, 1) := by decide +kernel
theorem dX11_society_30 : decode cX11_society 30 = .ok (.getfield 10, 3) := by decide +kernel
theorem dX11_society_33 : decode cX11_society 33 = .ok (.getfield 141, 3) := by decide +kernel
theorem dX11_society_36 : decode cX11_society 36 = .ok (.aload_n 0, 1) := by decide +kernel
theorem dX11_society_37 : decode cX11_society 37 = .ok (.getfield 10, 3) := by decide +kernel
theorem dX11_society_40 : decode cX11_society 40 = .ok (.getfield 138, 3) := by decide +kernel
theorem dX11_society_43 : decode cX11_society 43 = .ok (.new 145, 3) := by decide +kernel
theorem dX11_society_46 : decode cX11_society 46 = .ok (.dup, 1) := by decide +kernel
theorem dX11_society_47 : decode cX11_society 47 = .ok (.iload_n 1, 1) := by decide +kernel
theorem dX11_society_48 : decode cX11_society 48 = .ok (.iload_n 2, 1) := by decide +kernel
theorem dX11_society_49 : decode cX11_society 49 = .ok (.invokespecial 147, 3) := by decide +kernel
theorem dX11_society_52 : decode cX11_society 52 = .ok (.aastore, 1) := by decide +kernel
theorem dX11_society_53 : decode cX11_society 53 = .ok (.aload_n 0, 1) := by decide +kernel
theorem dX11_society_54 : decode cX11_society 54 = .ok (.getfield 10, 3) := by decide +kernel
theorem dX11_society_57 : decode cX11_society 57 = .ok (.dup, 1) := by decide +kernel
theorem dX11_society_58 : decode cX11_society 58 = .ok (.getfield 138, 3) := by decide +kernel
theorem dX11_society_61 : decode cX11_society 61 = .ok (.iconst 1, 1) := by decide +kernel
theorem dX11_society_62 : decode cX11_society 62 = .ok (.iadd, 1) := by decide +kernel
theorem dX11_society_63 : decode cX11_society 63 = .ok (.putfield 138, 3) := by decide +kernel
theorem dX11_society_66 : decode cX11_society 66 = .ok (.aload_n 0, 1) := by decide +kernel
theorem dX11_society_67 : decode cX11_society 67 = .ok (.getfield 10, 3) := by decide +kernel
theorem dX11_society_70 : decode cX11_society 70 = .ok (.getfield 138, 3) := by decide +kernel
theorem dX11_society_73 : decode cX11_society 73 = .ok (.iconst 1, 1) := by decide +kernel
theorem dX11_society_74 : decode cX11_society 74 = .ok (.isub, 1) := by decide +kernel
theorem dX11_society_75 : decode cX11_society 75 = .ok (.ireturn, 1) := by decide +kernel
theorem dX11_evenings_0 : decode cX11_evenings 0 = .ok (.iload_n 1, 1) := by decide +kernel
theorem dX11_evenings_1 : decode cX11_evenings 1 = .ok (.ifCond .lt 18, 3) := by decide +kernel
theorem dX11_evenings_4 : decode cX11_evenings 4 = .ok (.iload_n 1, 1) := by decide +kernel
theorem dX11_evenings_5 : decode cX11_evenings 5 = .ok (.sipush 999, 3) := by decide +kernel
theorem dX11_evenings_8 : decode cX11_evenings 8 = .ok (.aload_n 0, 1) := by decide +kernel
theorem dX11_evenings_9 : decode cX11_evenings 9 = .ok (.getfield 10, 3) := by decide +kernel
theorem dX11_evenings_12 : decode cX11_evenings 12 = .ok (.getfield 148, 3) := by decide +kernel
theorem dX11_evenings_15 : decode cX11_evenings 15 = .ok (.isub, 1) := by decide +kernel
theorem dX11_evenings_16 : decode cX11_evenings 16 = .ok (.if_icmp .le 13, 3) := by decide +kernel
theorem dX11_evenings_19 : decode cX11_evenings 19 = .ok (.new 151, 3) := by decide +kernel
theorem dX11_evenings_22 : decode cX11_evenings 22 = .ok (.dup, 1) := by decide +kernel
theorem dX11_evenings_23 : decode cX11_evenings 23 = .ok (.ldc 153, 2) := by decide +kernel
theorem dX11_evenings_25 : decode cX11_evenings 25 = .ok (.invokespecial 155, 3) := by decide +kernel
theorem dX11_evenings_28 : decode cX11_evenings 28 = .ok (.athrow, 1) := by decide +kernel
theorem dX11_evenings_29 : decode cX11_evenings 29 = .ok (.aload_n 0, 1) := by decide +kernel
theorem dX11_evenings_30 : decode cX11_evenings 30 = .ok (.getfield 10, 3) := by decide +kernel
theorem dX11_evenings_33 : decode cX11_evenings 33 = .ok (.dup, 1) := by decide +kernel
theorem dX11_evenings_34 : decode cX11_evenings 34 = .ok (.getfield 148, 3) := by decide +kernel
theorem dX11_evenings_37 : decode cX11_evenings 37 = .ok (.iload_n 1, 1) := by decide +kernel
theorem dX11_evenings_38 : decode cX11_evenings 38 = .ok (.iadd, 1) := by decide +kernel
theorem dX11_evenings_39 : decode cX11_evenings 39 = .ok (.putfield 148, 3) := by decide +kernel
theorem dX11_evenings_42 : decode cX11_evenings 42 = .ok (.aload_n 0, 1) := by decide +kernel
theorem dX11_evenings_43 : decode cX11_evenings 43 = .ok (.getfield 10, 3) := by decide +kernel
theorem dX11_evenings_46 : decode cX11_evenings 46 = .ok (.getfield 148, 3) := by decide +kernel
theorem dX11_evenings_49 : decode cX11_evenings 49 = .ok (.ireturn, 1) := by decide +kernel
theorem dX11_death_0 : decode cX11_death 0 = .ok (.aload_n 0, 1) := by decide +kernel
theorem dX11_death_1 : decode cX11_death 1 = .ok (.iload_n 1, 1) := by decide +kernel
theorem dX11_death_2 : decode cX11_death 2 = .ok (.invokevirtual 103, 3) := by decide +kernel
theorem dX11_death_5 : decode cX11_death 5 = .ok (.aload_n 0, 1) := by decide +kernel
theorem dX11_death_6 : decode cX11_death 6 = .ok (.getfield 10, 3) := by decide +kernel
theorem dX11_death_9 : decode cX11_death 9 = .ok (.invokevirtual 158, 3) := by decide +kernel
theorem dX11_death_12 : decode cX11_death 12 = .ok (.ifCond .ne 22, 3) := by decide +kernel
theorem dX11_death_15 : decode cX11_death 15 = .ok (.iload_n 2, 1) := by decide +kernel
theorem dX11_death_16 : decode cX11_death 16 = .ok (.invokestatic 73, 3) := by decide +kernel
theorem dX11_death_19 : decode cX11_death 19 = .ok (.ifCond .eq 15, 3) := by decide +kernel
theorem dX11_death_22 : decode cX11_death 22 = .ok (.iload_n 3, 1) := by decide +kernel
theorem dX11_death_23 : decode cX11_death 23 = .ok (.invokestatic 73, 3) := by decide +kernel
theorem dX11_death_26 : decode cX11_death 26 = .ok (.ifCond .eq 8, 3) := by decide +kernel
theorem dX11_death_29 : decode cX11_death 29 = .ok (.iload_n 3, 1) := by decide +kernel
theorem dX11_death_30 : decode cX11_death 30 = .ok (.iload_n 2, 1) := by decide +kernel
theorem dX11_death_31 : decode cX11_death 31 = .ok (.if_icmp .ge 5, 3) := by decide +kernel
theorem dX11_death_34 : decode cX11_death 34 = .ok (.iconst (-1), 1) := by decide +kernel
theorem dX11_death_35 : decode cX11_death 35 = .ok (.ireturn, 1) := by decide +kernel
theorem dX11_death_36 : decode cX11_death 36 = .ok (.new 162, 3) := by decide +kernel
theorem dX11_death_39 : decode cX11_death 39 = .ok (.dup, 1) := by decide +kernel
theorem dX11_death_40 : decode cX11_death 40 = .ok (.iconst 0, 1) := by decide +kernel
theorem dX11_death_41 : decode cX11_death 41 = .ok (.iconst (-1), 1) := by decide +kernel
theorem dX11_death_42 : decode cX11_death 42 = .ok (.iload_n 1, 1) := by decide +kernel
theorem dX11_death_43 : decode cX11_death 43 = .ok (.iconst (-1), 1) := by decide +kernel
theorem dX11_death_44 : decode cX11_death 44 = .ok (.iload_n 2, 1) := by decide +kernel
theorem dX11_death_45 : decode cX11_death 45 = .ok (.aload_n 0, 1) := by decide +kernel
theorem dX11_death_46 : decode cX11_death 46 = .ok (.getfield 10, 3) := by decide +kernel
theorem dX11_death_49 : decode cX11_death 49 = .ok (.getfield 148, 3) := by decide +kernel
theorem dX11_death_52 : decode cX11_death 52 = .ok (.invokespecial 164, 3) := by decide +kernel
theorem dX11_death_55 : decode cX11_death 55 = .ok (.astore 4, 2) := by decide +kernel
theorem dX11_death_57 : decode cX11_death 57 = .ok (.aload 4, 2) := by decide +kernel
theorem dX11_death_59 : decode cX11_death 59 = .ok (.iload_n 3, 1) := by decide +kernel
theorem dX11_death_60 : decode cX11_death 60 = .ok (.putfield 167, 3) := by decide +kernel
theorem dX11_death_63 : decode cX11_death 63 = .ok (.aload_n 0, 1) := by decide +kernel
theorem dX11_death_64 : decode cX11_death 64 = .ok (.getfield 10, 3) := by decide +kernel
theorem dX11_death_67 : decode cX11_death 67 = .ok (.aload 4, 2) := by decide +kernel
theorem dX11_death_69 : decode cX11_death 69 = .ok (.invokevirtual 170, 3) := by decide +kernel
theorem dX11_death_72 : decode cX11_death 72 = .ok (.ireturn, 1) := by decide +kernel
theorem dX11_heir_0 : decode cX11_heir 0 = .ok (.aload_n 0, 1) := by decide +kernel
theorem dX11_heir_1 : decode cX11_heir 1 = .ok (.iload_n 1, 1) := by decide +kernel
theorem dX11_heir_2 : decode cX11_heir 2 = .ok (.invokevirtual 103, 3) := by decide +kernel
theorem dX11_heir_5 : decode cX11_heir 5 = .ok (.aload_n 0, 1) := by decide +kernel
theorem dX11_heir_6 : decode cX11_heir 6 = .ok (.iload_n 2, 1) := by decide +kernel
theorem dX11_heir_7 : decode cX11_heir 7 = .ok (.invokevirtual 103, 3) := by decide +kernel
theorem dX11_heir_10 : decode cX11_heir 10 = .ok (.aload_n 0, 1) := by decide +kernel
theorem dX11_heir_11 : decode cX11_heir 11 = .ok (.getfield 10, 3) := by decide +kernel
theorem dX11_heir_14 : decode cX11_heir 14 = .ok (.invokevirtual 158, 3) := by decide +kernel
theorem dX11_heir_17 : decode cX11_heir 17 = .ok (.ifCond .ne 29, 3) := by decide +kernel
theorem dX11_heir_20 : decode cX11_heir 20 = .ok (.iload_n 1, 1) := by decide +kernel
theorem dX11_heir_21 : decode cX11_heir 21 = .ok (.iload_n 2, 1) := by decide +kernel
theorem dX11_heir_22 : decode cX11_heir 22 = .ok (.if_icmp .eq 24, 3) := by decide +kernel
theorem dX11_heir_25 : decode cX11_heir 25 = .ok (.iload 4, 2) := by decide +kernel
theorem dX11_heir_27 : decode cX11_heir 27 = .ok (.iconst 1, 1) := by decide +kernel
theorem dX11_heir_28 : decode cX11_heir 28 = .ok (.bipush 12, 2) := by decide +kernel
theorem dX11_heir_30 : decode cX11_heir 30 = .ok (.invokestatic 78, 3) := by decide +kernel
theorem dX11_heir_33 : decode cX11_heir 33 = .ok (.ifCond .eq 13, 3) := by decide +kernel
theorem dX11_heir_36 : decode cX11_heir 36 = .ok (.iload_n 3, 1) := by decide +kernel
theorem dX11_heir_37 : decode cX11_heir 37 = .ok (.iconst 1, 1) := by decide +kernel
theorem dX11_heir_38 : decode cX11_heir 38 = .ok (.iload 4, 2) := by decide +kernel
theorem dX11_heir_40 : decode cX11_heir 40 = .ok (.invokestatic 78, 3) := by decide +kernel
theorem dX11_heir_43 : decode cX11_heir 43 = .ok (.ifCond .ne 5, 3) := by decide +kernel
theorem dX11_heir_46 : decode cX11_heir 46 = .ok (.iconst (-1), 1) := by decide +kernel
theorem dX11_heir_47 : decode cX11_heir 47 = .ok (.ireturn, 1) := by decide +kernel
theorem dX11_heir_48 : decode cX11_heir 48 = .ok (.aload_n 0, 1) := by decide +kernel
theorem dX11_heir_49 : decode cX11_heir 49 = .ok (.getfield 10, 3) := by decide +kernel
theorem dX11_heir_52 : decode cX11_heir 52 = .ok (.iload_n 1, 1) := by decide +kernel
theorem dX11_heir_53 : decode cX11_heir 53 = .ok (.invokevirtual 174, 3) := by decide +kernel
theorem dX11_heir_56 : decode cX11_heir 56 = .ok (.iload_n 3, 1) := by decide +kernel
theorem dX11_heir_57 : decode cX11_heir 57 = .ok (.iload 4, 2) := by decide +kernel
theorem dX11_heir_59 : decode cX11_heir 59 = .ok (.invokestatic 178, 3) := by decide +kernel
theorem dX11_heir_62 : decode cX11_heir 62 = .ok (.iadd, 1) := by decide +kernel
theorem dX11_heir_63 : decode cX11_heir 63 = .ok (.sipush 27720, 3) := by decide +kernel
theorem dX11_heir_66 : decode cX11_heir 66 = .ok (.if_icmp .le 5, 3) := by decide +kernel
theorem dX11_heir_69 : decode cX11_heir 69 = .ok (.iconst (-1), 1) := by decide +kernel
theorem dX11_heir_70 : decode cX11_heir 70 = .ok (.ireturn, 1) := by decide +kernel
theorem dX11_heir_71 : decode cX11_heir 71 = .ok (.new 162, 3) := by decide +kernel
theorem dX11_heir_74 : decode cX11_heir 74 = .ok (.dup, 1) := by decide +kernel
theorem dX11_heir_75 : decode cX11_heir 75 = .ok (.iconst 1, 1) := by decide +kernel
theorem dX11_heir_76 : decode cX11_heir 76 = .ok (.iconst (-1), 1) := by decide +kernel
theorem dX11_heir_77 : decode cX11_heir 77 = .ok (.iload_n 1, 1) := by decide +kernel
theorem dX11_heir_78 : decode cX11_heir 78 = .ok (.iload_n 2, 1) := by decide +kernel
theorem dX11_heir_79 : decode cX11_heir 79 = .ok (.iconst (-1), 1) := by decide +kernel
theorem dX11_heir_80 : decode cX11_heir 80 = .ok (.aload_n 0, 1) := by decide +kernel
theorem dX11_heir_81 : decode cX11_heir 81 = .ok (.getfield 10, 3) := by decide +kernel
theorem dX11_heir_84 : decode cX11_heir 84 = .ok (.getfield 148, 3) := by decide +kernel
theorem dX11_heir_87 : decode cX11_heir 87 = .ok (.invokespecial 164, 3) := by decide +kernel
theorem dX11_heir_90 : decode cX11_heir 90 = .ok (.astore 5, 2) := by decide +kernel
theorem dX11_heir_92 : decode cX11_heir 92 = .ok (.aload 5, 2) := by decide +kernel
theorem dX11_heir_94 : decode cX11_heir 94 = .ok (.iload_n 3, 1) := by decide +kernel
theorem dX11_heir_95 : decode cX11_heir 95 = .ok (.putfield 182, 3) := by decide +kernel
theorem dX11_heir_98 : decode cX11_heir 98 = .ok (.aload 5, 2) := by decide +kernel
theorem dX11_heir_100 : decode cX11_heir 100 = .ok (.iload 4, 2) := by decide +kernel
theorem dX11_heir_102 : decode cX11_heir 102 = .ok (.putfield 185, 3) := by decide +kernel
theorem dX11_heir_105 : decode cX11_heir 105 = .ok (.aload_n 0, 1) := by decide +kernel
theorem dX11_heir_106 : decode cX11_heir 106 = .ok (.getfield 10, 3) := by decide +kernel
theorem dX11_heir_109 : decode cX11_heir 109 = .ok (.aload 5, 2) := by decide +kernel
theorem dX11_heir_111 : decode cX11_heir 111 = .ok (.invokevirtual 170, 3) := by decide +kernel
theorem dX11_heir_114 : decode cX11_heir 114 = .ok (.ireturn, 1) := by decide +kernel
theorem dX11_sale_0 : decode cX11_sale 0 = .ok (.aload_n 0, 1) := by decide +kernel
theorem dX11_sale_1 : decode cX11_sale 1 = .ok (.iload_n 1, 1) := by decide +kernel
theorem dX11_sale_2 : decode cX11_sale 2 = .ok (.invokevirtual 122, 3) := by decide +kernel
theorem dX11_sale_5 : decode cX11_sale 5 = .ok (.aload_n 0, 1) := by decide +kernel
theorem dX11_sale_6 : decode cX11_sale 6 = .ok (.iload_n 2, 1) := by decide +kernel
theorem dX11_sale_7 : decode cX11_sale 7 = .ok (.invokevirtual 103, 3) := by decide +kernel
theorem dX11_sale_10 : decode cX11_sale 10 = .ok (.aload_n 0, 1) := by decide +kernel
theorem dX11_sale_11 : decode cX11_sale 11 = .ok (.iload_n 3, 1) := by decide +kernel
theorem dX11_sale_12 : decode cX11_sale 12 = .ok (.invokevirtual 103, 3) := by decide +kernel
theorem dX11_sale_15 : decode cX11_sale 15 = .ok (.aload_n 0, 1) := by decide +kernel
theorem dX11_sale_16 : decode cX11_sale 16 = .ok (.iload 5, 2) := by decide +kernel
theorem dX11_sale_18 : decode cX11_sale 18 = .ok (.invokevirtual 66, 3) := by decide +kernel
theorem dX11_sale_21 : decode cX11_sale 21 = .ok (.iload_n 2, 1) := by decide +kernel
theorem dX11_sale_22 : decode cX11_sale 22 = .ok (.iload_n 3, 1) := by decide +kernel
theorem dX11_sale_23 : decode cX11_sale 23 = .ok (.if_icmp .eq 36, 3) := by decide +kernel
theorem dX11_sale_26 : decode cX11_sale 26 = .ok (.iload 4, 2) := by decide +kernel
theorem dX11_sale_28 : decode cX11_sale 28 = .ok (.invokestatic 73, 3) := by decide +kernel
theorem dX11_sale_31 : decode cX11_sale 31 = .ok (.ifCond .eq 28, 3) := by decide +kernel
theorem dX11_sale_34 : decode cX11_sale 34 = .ok (.iload 6, 2) := by decide +kernel
theorem dX11_sale_36 : decode cX11_sale 36 = .ok (.iconst 1, 1) := by decide +kernel
theorem dX11_sale_37 : decode cX11_sale 37 = .ok (.ldc 188, 2) := by decide +kernel
theorem dX11_sale_39 : decode cX11_sale 39 = .ok (.invokestatic 78, 3) := by decide +kernel
theorem dX11_sale_42 : decode cX11_sale 42 = .ok (.ifCond .eq 17, 3) := by decide +kernel
theorem dX11_sale_45 : decode cX11_sale 45 = .ok (.iload 7, 2) := by decide +kernel
theorem dX11_sale_47 : decode cX11_sale 47 = .ok (.iconst 0, 1) := by decide +kernel
theorem dX11_sale_48 : decode cX11_sale 48 = .ok (.iconst 3, 1) := by decide +kernel
theorem dX11_sale_49 : decode cX11_sale 49 = .ok (.invokestatic 78, 3) := by decide +kernel
theorem dX11_sale_52 : decode cX11_sale 52 = .ok (.ifCond .eq 7, 3) := by decide +kernel
theorem dX11_sale_55 : decode cX11_sale 55 = .ok (.iconst 1, 1) := by decide +kernel
theorem dX11_sale_56 : decode cX11_sale 56 = .ok (.goto 4, 3) := by decide +kernel
theorem dX11_sale_59 : decode cX11_sale 59 = .ok (.iconst 0, 1) := by decide +kernel
theorem dX11_sale_60 : decode cX11_sale 60 = .ok (.istore 8, 2) := by decide +kernel
theorem dX11_sale_62 : decode cX11_sale 62 = .ok (.aload_n 0, 1) := by decide +kernel
theorem dX11_sale_63 : decode cX11_sale 63 = .ok (.getfield 10, 3) := by decide +kernel
theorem dX11_sale_66 : decode cX11_sale 66 = .ok (.invokevirtual 158, 3) := by decide +kernel
theorem dX11_sale_69 : decode cX11_sale 69 = .ok (.ifCond .ne 8, 3) := by decide +kernel
theorem dX11_sale_72 : decode cX11_sale 72 = .ok (.iload 8, 2) := by decide +kernel
theorem dX11_sale_74 : decode cX11_sale 74 = .ok (.ifCond .ne 5, 3) := by decide +kernel
theorem dX11_sale_77 : decode cX11_sale 77 = .ok (.iconst (-1), 1) := by decide +kernel
theorem dX11_sale_78 : decode cX11_sale 78 = .ok (.ireturn, 1) := by decide +kernel
theorem dX11_sale_79 : decode cX11_sale 79 = .ok (.new 162, 3) := by decide +kernel
theorem dX11_sale_82 : decode cX11_sale 82 = .ok (.dup, 1) := by decide +kernel
theorem dX11_sale_83 : decode cX11_sale 83 = .ok (.iconst 2, 1) := by decide +kernel
theorem dX11_sale_84 : decode cX11_sale 84 = .ok (.iload_n 1, 1) := by decide +kernel
theorem dX11_sale_85 : decode cX11_sale 85 = .ok (.iload_n 2, 1) := by decide +kernel
theorem dX11_sale_86 : decode cX11_sale 86 = .ok (.iload_n 3, 1) := by decide +kernel
theorem dX11_sale_87 : decode cX11_sale 87 = .ok (.iload 4, 2) := by decide +kernel
theorem dX11_sale_89 : decode cX11_sale 89 = .ok (.aload_n 0, 1) := by decide +kernel
theorem dX11_sale_90 : decode cX11_sale 90 = .ok (.getfield 10, 3) := by decide +kernel
theorem dX11_sale_93 : decode cX11_sale 93 = .ok (.getfield 148, 3) := by decide +kernel
theorem dX11_sale_96 : decode cX11_sale 96 = .ok (.invokespecial 164, 3) := by decide +kernel
theorem dX11_sale_99 : decode cX11_sale 99 = .ok (.astore 9, 2) := by decide +kernel
theorem dX11_sale_101 : decode cX11_sale 101 = .ok (.aload 9, 2) := by decide +kernel
theorem dX11_sale_103 : decode cX11_sale 103 = .ok (.iload 5, 2) := by decide +kernel
theorem dX11_sale_105 : decode cX11_sale 105 = .ok (.putfield 189, 3) := by decide +kernel
theorem dX11_sale_108 : decode cX11_sale 108 = .ok (.aload 9, 2) := by decide +kernel
theorem dX11_sale_110 : decode cX11_sale 110 = .ok (.iload 6, 2) := by decide +kernel
theorem dX11_sale_112 : decode cX11_sale 112 = .ok (.putfield 192, 3) := by decide +kernel
theorem dX11_sale_115 : decode cX11_sale 115 = .ok (.aload 9, 2) := by decide +kernel
theorem dX11_sale_117 : decode cX11_sale 117 = .ok (.iload 7, 2) := by decide +kernel
theorem dX11_sale_119 : decode cX11_sale 119 = .ok (.putfield 195, 3) := by decide +kernel
theorem dX11_sale_122 : decode cX11_sale 122 = .ok (.aload_n 0, 1) := by decide +kernel
theorem dX11_sale_123 : decode cX11_sale 123 = .ok (.getfield 10, 3) := by decide +kernel
theorem dX11_sale_126 : decode cX11_sale 126 = .ok (.aload 9, 2) := by decide +kernel
theorem dX11_sale_128 : decode cX11_sale 128 = .ok (.invokevirtual 170, 3) := by decide +kernel
theorem dX11_sale_131 : decode cX11_sale 131 = .ok (.ireturn, 1) := by decide +kernel
theorem dX11_fact_0 : decode cX11_fact 0 = .ok (.iload_n 1, 1) := by decide +kernel
theorem dX11_fact_1 : decode cX11_fact 1 = .ok (.iconst 3, 1) := by decide +kernel
theorem dX11_fact_2 : decode cX11_fact 2 = .ok (.iconst 5, 1) := by decide +kernel
theorem dX11_fact_3 : decode cX11_fact 3 = .ok (.invokestatic 78, 3) := by decide +kernel
theorem dX11_fact_6 : decode cX11_fact 6 = .ok (.ifCond .ne 13, 3) := by decide +kernel
theorem dX11_fact_9 : decode cX11_fact 9 = .ok (.new 198, 3) := by decide +kernel
theorem dX11_fact_12 : decode cX11_fact 12 = .ok (.dup, 1) := by decide +kernel
theorem dX11_fact_13 : decode cX11_fact 13 = .ok (.ldc 200, 2) := by decide +kernel
theorem dX11_fact_15 : decode cX11_fact 15 = .ok (.invokespecial 202, 3) := by decide +kernel
theorem dX11_fact_18 : decode cX11_fact 18 = .ok (.athrow, 1) := by decide +kernel
theorem dX11_fact_19 : decode cX11_fact 19 = .ok (.aload_n 0, 1) := by decide +kernel
theorem dX11_fact_20 : decode cX11_fact 20 = .ok (.iload_n 3, 1) := by decide +kernel
theorem dX11_fact_21 : decode cX11_fact 21 = .ok (.invokevirtual 103, 3) := by decide +kernel
theorem dX11_fact_24 : decode cX11_fact 24 = .ok (.iload_n 1, 1) := by decide +kernel
theorem dX11_fact_25 : decode cX11_fact 25 = .ok (.iconst 5, 1) := by decide +kernel
theorem dX11_fact_26 : decode cX11_fact 26 = .ok (.if_icmp .ne 12, 3) := by decide +kernel
theorem dX11_fact_29 : decode cX11_fact 29 = .ok (.aload_n 0, 1) := by decide +kernel
theorem dX11_fact_30 : decode cX11_fact 30 = .ok (.iload 4, 2) := by decide +kernel
theorem dX11_fact_32 : decode cX11_fact 32 = .ok (.invokevirtual 203, 3) := by decide +kernel
theorem dX11_fact_35 : decode cX11_fact 35 = .ok (.goto 8, 3) := by decide +kernel
theorem dX11_fact_38 : decode cX11_fact 38 = .ok (.aload_n 0, 1) := by decide +kernel
theorem dX11_fact_39 : decode cX11_fact 39 = .ok (.iload_n 2, 1) := by decide +kernel
theorem dX11_fact_40 : decode cX11_fact 40 = .ok (.invokevirtual 122, 3) := by decide +kernel
theorem dX11_fact_43 : decode cX11_fact 43 = .ok (.iload_n 1, 1) := by decide +kernel
theorem dX11_fact_44 : decode cX11_fact 44 = .ok (.iconst 3, 1) := by decide +kernel
theorem dX11_fact_45 : decode cX11_fact 45 = .ok (.if_icmp .ne 9, 3) := by decide +kernel
theorem dX11_fact_48 : decode cX11_fact 48 = .ok (.aload_n 0, 1) := by decide +kernel
theorem dX11_fact_49 : decode cX11_fact 49 = .ok (.iload 4, 2) := by decide +kernel
theorem dX11_fact_51 : decode cX11_fact 51 = .ok (.invokevirtual 103, 3) := by decide +kernel
theorem dX11_fact_54 : decode cX11_fact 54 = .ok (.aload_n 0, 1) := by decide +kernel
theorem dX11_fact_55 : decode cX11_fact 55 = .ok (.getfield 10, 3) := by decide +kernel
theorem dX11_fact_58 : decode cX11_fact 58 = .ok (.invokevirtual 158, 3) := by decide +kernel
theorem dX11_fact_61 : decode cX11_fact 61 = .ok (.ifCond .ne 22, 3) := by decide +kernel
theorem dX11_fact_64 : decode cX11_fact 64 = .ok (.iload 5, 2) := by decide +kernel
theorem dX11_fact_66 : decode cX11_fact 66 = .ok (.invokestatic 73, 3) := by decide +kernel
theorem dX11_fact_69 : decode cX11_fact 69 = .ok (.ifCond .eq 14, 3) := by decide +kernel
theorem dX11_fact_72 : decode cX11_fact 72 = .ok (.iload_n 1, 1) := by decide +kernel
theorem dX11_fact_73 : decode cX11_fact 73 = .ok (.iconst 3, 1) := by decide +kernel
theorem dX11_fact_74 : decode cX11_fact 74 = .ok (.if_icmp .ne 11, 3) := by decide +kernel
theorem dX11_fact_77 : decode cX11_fact 77 = .ok (.iload_n 3, 1) := by decide +kernel
theorem dX11_fact_78 : decode cX11_fact 78 = .ok (.iload 4, 2) := by decide +kernel
theorem dX11_fact_80 : decode cX11_fact 80 = .ok (.if_icmp .ne 5, 3) := by decide +kernel
theorem dX11_fact_83 : decode cX11_fact 83 = .ok (.iconst (-1), 1) := by decide +kernel
theorem dX11_fact_84 : decode cX11_fact 84 = .ok (.ireturn, 1) := by decide +kernel
theorem dX11_fact_85 : decode cX11_fact 85 = .ok (.iload_n 1, 1) := by decide +kernel
theorem dX11_fact_86 : decode cX11_fact 86 = .ok (.iconst 4, 1) := by decide +kernel
theorem dX11_fact_87 : decode cX11_fact 87 = .ok (.if_icmp .ne 7, 3) := by decide +kernel
theorem dX11_fact_90 : decode cX11_fact 90 = .ok (.iload_n 3, 1) := by decide +kernel
theorem dX11_fact_91 : decode cX11_fact 91 = .ok (.goto 5, 3) := by decide +kernel
theorem dX11_fact_94 : decode cX11_fact 94 = .ok (.iload 4, 2) := by decide +kernel
theorem dX11_fact_96 : decode cX11_fact 96 = .ok (.istore 6, 2) := by decide +kernel
theorem dX11_fact_98 : decode cX11_fact 98 = .ok (.iload_n 1, 1) := by decide +kernel
theorem dX11_fact_99 : decode cX11_fact 99 = .ok (.iconst 5, 1) := by decide +kernel
theorem dX11_fact_100 : decode cX11_fact 100 = .ok (.if_icmp .ne 7, 3) := by decide +kernel
theorem dX11_fact_103 : decode cX11_fact 103 = .ok (.iconst (-1), 1) := by decide +kernel
theorem dX11_fact_104 : decode cX11_fact 104 = .ok (.goto 4, 3) := by decide +kernel
theorem dX11_fact_107 : decode cX11_fact 107 = .ok (.iload_n 2, 1) := by decide +kernel
theorem dX11_fact_108 : decode cX11_fact 108 = .ok (.istore 7, 2) := by decide +kernel
theorem dX11_fact_110 : decode cX11_fact 110 = .ok (.aload_n 0, 1) := by decide +kernel
theorem dX11_fact_111 : decode cX11_fact 111 = .ok (.getfield 10, 3) := by decide +kernel
theorem dX11_fact_114 : decode cX11_fact 114 = .ok (.new 162, 3) := by decide +kernel
theorem dX11_fact_117 : decode cX11_fact 117 = .ok (.dup, 1) := by decide +kernel
theorem dX11_fact_118 : decode cX11_fact 118 = .ok (.iload_n 1, 1) := by decide +kernel
theorem dX11_fact_119 : decode cX11_fact 119 = .ok (.iload 7, 2) := by decide +kernel
theorem dX11_fact_121 : decode cX11_fact 121 = .ok (.iload_n 3, 1) := by decide +kernel
theorem dX11_fact_122 : decode cX11_fact 122 = .ok (.iload 6, 2) := by decide +kernel
theorem dX11_fact_124 : decode cX11_fact 124 = .ok (.iload 5, 2) := by decide +kernel
theorem dX11_fact_126 : decode cX11_fact 126 = .ok (.aload_n 0, 1) := by decide +kernel
theorem dX11_fact_127 : decode cX11_fact 127 = .ok (.getfield 10, 3) := by decide +kernel
theorem dX11_fact_130 : decode cX11_fact 130 = .ok (.getfield 148, 3) := by decide +kernel
theorem dX11_fact_133 : decode cX11_fact 133 = .ok (.invokespecial 164, 3) := by decide +kernel
theorem dX11_fact_136 : decode cX11_fact 136 = .ok (.invokevirtual 170, 3) := by decide +kernel
theorem dX11_fact_139 : decode cX11_fact 139 = .ok (.ireturn, 1) := by decide +kernel
theorem dX11_back_0 : decode cX11_back 0 = .ok (.iload_n 2, 1) := by decide +kernel
theorem dX11_back_1 : decode cX11_back 1 = .ok (.iconst 0, 1) := by decide +kernel
theorem dX11_back_2 : decode cX11_back 2 = .ok (.iload_n 1, 1) := by decide +kernel
theorem dX11_back_3 : decode cX11_back 3 = .ok (.ifCond .eq 13, 3) := by decide +kernel
theorem dX11_back_6 : decode cX11_back 6 = .ok (.aload_n 0, 1) := by decide +kernel
theorem dX11_back_7 : decode cX11_back 7 = .ok (.getfield 10, 3) := by decide +kernel
theorem dX11_back_10 : decode cX11_back 10 = .ok (.getfield 206, 3) := by decide +kernel
theorem dX11_back_13 : decode cX11_back 13 = .ok (.goto 10, 3) := by decide +kernel
theorem dX11_back_16 : decode cX11_back 16 = .ok (.aload_n 0, 1) := by decide +kernel
theorem dX11_back_17 : decode cX11_back 17 = .ok (.getfield 10, 3) := by decide +kernel
theorem dX11_back_20 : decode cX11_back 20 = .ok (.getfield 209, 3) := by decide +kernel
theorem dX11_back_23 : decode cX11_back 23 = .ok (.iconst 1, 1) := by decide +kernel
theorem dX11_back_24 : decode cX11_back 24 = .ok (.isub, 1) := by decide +kernel
theorem dX11_back_25 : decode cX11_back 25 = .ok (.invokestatic 78, 3) := by decide +kernel
theorem dX11_back_28 : decode cX11_back 28 = .ok (.ifCond .ne 13, 3) := by decide +kernel
theorem dX11_back_31 : decode cX11_back 31 = .ok (.new 198, 3) := by decide +kernel
theorem dX11_back_34 : decode cX11_back 34 = .ok (.dup, 1) := by decide +kernel
theorem dX11_back_35 : decode cX11_back 35 = .ok (.ldc 212, 2) := by decide +kernel
theorem dX11_back_37 : decode cX11_back 37 = .ok (.invokespecial 202, 3) := by decide +kernel
theorem dX11_back_40 : decode cX11_back 40 = .ok (.athrow, 1) := by decide +kernel
theorem dX11_back_41 : decode cX11_back 41 = .ok (.iload_n 1, 1) := by decide +kernel
theorem dX11_back_42 : decode cX11_back 42 = .ok (.ifCond .eq 14, 3) := by decide +kernel
theorem dX11_back_45 : decode cX11_back 45 = .ok (.aload_n 0, 1) := by decide +kernel
theorem dX11_back_46 : decode cX11_back 46 = .ok (.getfield 10, 3) := by decide +kernel
theorem dX11_back_49 : decode cX11_back 49 = .ok (.iload_n 2, 1) := by decide +kernel
theorem dX11_back_50 : decode cX11_back 50 = .ok (.invokevirtual 214, 3) := by decide +kernel
theorem dX11_back_53 : decode cX11_back 53 = .ok (.goto 11, 3) := by decide +kernel
theorem dX11_back_56 : decode cX11_back 56 = .ok (.aload_n 0, 1) := by decide +kernel
theorem dX11_back_57 : decode cX11_back 57 = .ok (.getfield 10, 3) := by decide +kernel
theorem dX11_back_60 : decode cX11_back 60 = .ok (.iload_n 2, 1) := by decide +kernel
theorem dX11_back_61 : decode cX11_back 61 = .ok (.invokevirtual 218, 3) := by decide +kernel
theorem dX11_back_64 : decode cX11_back 64 = .ok (.astore_n 3, 1) := by decide +kernel
theorem dX11_back_65 : decode cX11_back 65 = .ok (.aload_n 3, 1) := by decide +kernel
theorem dX11_back_66 : decode cX11_back 66 = .ok (.getfield 222, 3) := by decide +kernel
theorem dX11_back_69 : decode cX11_back 69 = .ok (.ldc 227, 2) := by decide +kernel
theorem dX11_back_71 : decode cX11_back 71 = .ok (.if_icmp .eq 5, 3) := by decide +kernel
theorem dX11_back_74 : decode cX11_back 74 = .ok (.iconst 0, 1) := by decide +kernel
theorem dX11_back_75 : decode cX11_back 75 = .ok (.ireturn, 1) := by decide +kernel
theorem dX11_back_76 : decode cX11_back 76 = .ok (.aload_n 3, 1) := by decide +kernel
theorem dX11_back_77 : decode cX11_back 77 = .ok (.aload_n 0, 1) := by decide +kernel
theorem dX11_back_78 : decode cX11_back 78 = .ok (.getfield 10, 3) := by decide +kernel
theorem dX11_back_81 : decode cX11_back 81 = .ok (.getfield 148, 3) := by decide +kernel
theorem dX11_back_84 : decode cX11_back 84 = .ok (.putfield 222, 3) := by decide +kernel
theorem dX11_back_87 : decode cX11_back 87 = .ok (.iconst 1, 1) := by decide +kernel
theorem dX11_back_88 : decode cX11_back 88 = .ok (.ireturn, 1) := by decide +kernel
theorem dX11_claim_0 : decode cX11_claim 0 = .ok (.aload_n 0, 1) := by decide +kernel
theorem dX11_claim_1 : decode cX11_claim 1 = .ok (.iload_n 1, 1) := by decide +kernel
theorem dX11_claim_2 : decode cX11_claim 2 = .ok (.invokevirtual 103, 3) := by decide +kernel
theorem dX11_claim_5 : decode cX11_claim 5 = .ok (.aload_n 0, 1) := by decide +kernel
theorem dX11_claim_6 : decode cX11_claim 6 = .ok (.iload_n 2, 1) := by decide +kernel
theorem dX11_claim_7 : decode cX11_claim 7 = .ok (.invokevirtual 228, 3) := by decide +kernel
theorem dX11_claim_10 : decode cX11_claim 10 = .ok (.aload_n 0, 1) := by decide +kernel
theorem dX11_claim_11 : decode cX11_claim 11 = .ok (.getfield 10, 3) := by decide +kernel
theorem dX11_claim_14 : decode cX11_claim 14 = .ok (.getfield 231, 3) := by decide +kernel
theorem dX11_claim_17 : decode cX11_claim 17 = .ok (.sipush 200, 3) := by decide +kernel
theorem dX11_claim_20 : decode cX11_claim 20 = .ok (.if_icmp .ge 16, 3) := by decide +kernel
theorem dX11_claim_23 : decode cX11_claim 23 = .ok (.aload_n 0, 1) := by decide +kernel
theorem dX11_claim_24 : decode cX11_claim 24 = .ok (.getfield 10, 3) := by decide +kernel
theorem dX11_claim_27 : decode cX11_claim 27 = .ok (.iload_n 1, 1) := by decide +kernel
theorem dX11_claim_28 : decode cX11_claim 28 = .ok (.iload_n 2, 1) := by decide +kernel
theorem dX11_claim_29 : decode cX11_claim 29 = .ok (.invokevirtual 234, 3) := by decide +kernel
theorem dX11_claim_32 : decode cX11_claim 32 = .ok (.iconst (-1), 1) := by decide +kernel
theorem dX11_claim_33 : decode cX11_claim 33 = .ok (.if_icmp .eq 5, 3) := by decide +kernel
theorem dX11_claim_36 : decode cX11_claim 36 = .ok (.iconst 0, 1) := by decide +kernel
theorem dX11_claim_37 : decode cX11_claim 37 = .ok (.ireturn, 1) := by decide +kernel
theorem dX11_claim_38 : decode cX11_claim 38 = .ok (.aload_n 0, 1) := by decide +kernel
theorem dX11_claim_39 : decode cX11_claim 39 = .ok (.getfield 10, 3) := by decide +kernel
theorem dX11_claim_42 : decode cX11_claim 42 = .ok (.getfield 237, 3) := by decide +kernel
theorem dX11_claim_45 : decode cX11_claim 45 = .ok (.aload_n 0, 1) := by decide +kernel
theorem dX11_claim_46 : decode cX11_claim 46 = .ok (.getfield 10, 3) := by decide +kernel
theorem dX11_claim_49 : decode cX11_claim 49 = .ok (.getfield 231, 3) := by decide +kernel
theorem dX11_claim_52 : decode cX11_claim 52 = .ok (.new 162, 3) := by decide +kernel
theorem dX11_claim_55 : decode cX11_claim 55 = .ok (.dup, 1) := by decide +kernel
theorem dX11_claim_56 : decode cX11_claim 56 = .ok (.bipush 6, 2) := by decide +kernel
theorem dX11_claim_58 : decode cX11_claim 58 = .ok (.iload_n 2, 1) := by decide +kernel
theorem dX11_claim_59 : decode cX11_claim 59 = .ok (.iload_n 1, 1) := by decide +kernel
theorem dX11_claim_60 : decode cX11_claim 60 = .ok (.iconst (-1), 1) := by decide +kernel
theorem dX11_claim_61 : decode cX11_claim 61 = .ok (.iconst (-1), 1) := by decide +kernel
theorem dX11_claim_62 : decode cX11_claim 62 = .ok (.aload_n 0, 1) := by decide +kernel
theorem dX11_claim_63 : decode cX11_claim 63 = .ok (.getfield 10, 3) := by decide +kernel
theorem dX11_claim_66 : decode cX11_claim 66 = .ok (.getfield 148, 3) := by decide +kernel
theorem dX11_claim_69 : decode cX11_claim 69 = .ok (.invokespecial 164, 3) := by decide +kernel
theorem dX11_claim_72 : decode cX11_claim 72 = .ok (.aastore, 1) := by decide +kernel
theorem dX11_claim_73 : decode cX11_claim 73 = .ok (.aload_n 0, 1) := by decide +kernel
theorem dX11_claim_74 : decode cX11_claim 74 = .ok (.getfield 10, 3) := by decide +kernel
theorem dX11_claim_77 : decode cX11_claim 77 = .ok (.dup, 1) := by decide +kernel
theorem dX11_claim_78 : decode cX11_claim 78 = .ok (.getfield 231, 3) := by decide +kernel
theorem dX11_claim_81 : decode cX11_claim 81 = .ok (.iconst 1, 1) := by decide +kernel
theorem dX11_claim_82 : decode cX11_claim 82 = .ok (.iadd, 1) := by decide +kernel
theorem dX11_claim_83 : decode cX11_claim 83 = .ok (.putfield 231, 3) := by decide +kernel
theorem dX11_claim_86 : decode cX11_claim 86 = .ok (.iconst 1, 1) := by decide +kernel
theorem dX11_claim_87 : decode cX11_claim 87 = .ok (.ireturn, 1) := by decide +kernel
theorem dX11_feed_0 : decode cX11_feed 0 = .ok (.aload_n 0, 1) := by decide +kernel
theorem dX11_feed_1 : decode cX11_feed 1 = .ok (.getfield 45, 3) := by decide +kernel
theorem dX11_feed_4 : decode cX11_feed 4 = .ok (.sipush 480, 3) := by decide +kernel
theorem dX11_feed_7 : decode cX11_feed 7 = .ok (.if_icmp .le 5, 3) := by decide +kernel
theorem dX11_feed_10 : decode cX11_feed 10 = .ok (.iconst (-1), 1) := by decide +kernel
theorem dX11_feed_11 : decode cX11_feed 11 = .ok (.ireturn, 1) := by decide +kernel
theorem dX11_feed_12 : decode cX11_feed 12 = .ok (.aload_n 0, 1) := by decide +kernel
theorem dX11_feed_13 : decode cX11_feed 13 = .ok (.iload_n 1, 1) := by decide +kernel
theorem dX11_feed_14 : decode cX11_feed 14 = .ok (.invokevirtual 241, 3) := by decide +kernel
theorem dX11_feed_17 : decode cX11_feed 17 = .ok (.aload_n 0, 1) := by decide +kernel
theorem dX11_feed_18 : decode cX11_feed 18 = .ok (.iload_n 2, 1) := by decide +kernel
theorem dX11_feed_19 : decode cX11_feed 19 = .ok (.invokevirtual 241, 3) := by decide +kernel
theorem dX11_feed_22 : decode cX11_feed 22 = .ok (.aload_n 0, 1) := by decide +kernel
theorem dX11_feed_23 : decode cX11_feed 23 = .ok (.iload_n 3, 1) := by decide +kernel
theorem dX11_feed_24 : decode cX11_feed 24 = .ok (.invokevirtual 241, 3) := by decide +kernel
theorem dX11_feed_27 : decode cX11_feed 27 = .ok (.aload_n 0, 1) := by decide +kernel
theorem dX11_feed_28 : decode cX11_feed 28 = .ok (.iload 4, 2) := by decide +kernel
theorem dX11_feed_30 : decode cX11_feed 30 = .ok (.invokevirtual 241, 3) := by decide +kernel
theorem dX11_feed_33 : decode cX11_feed 33 = .ok (.aload_n 0, 1) := by decide +kernel
theorem dX11_feed_34 : decode cX11_feed 34 = .ok (.iload 5, 2) := by decide +kernel
theorem dX11_feed_36 : decode cX11_feed 36 = .ok (.invokevirtual 241, 3) := by decide +kernel
theorem dX11_feed_39 : decode cX11_feed 39 = .ok (.aload_n 0, 1) := by decide +kernel
theorem dX11_feed_40 : decode cX11_feed 40 = .ok (.getfield 45, 3) := by decide +kernel
theorem dX11_feed_43 : decode cX11_feed 43 = .ok (.ireturn, 1) := by decide +kernel
theorem dX11_law_0 : decode cX11_law 0 = .ok (.aload_n 0, 1) := by decide +kernel
theorem dX11_law_1 : decode cX11_law 1 = .ok (.iload_n 1, 1) := by decide +kernel
theorem dX11_law_2 : decode cX11_law 2 = .ok (.iload_n 2, 1) := by decide +kernel
theorem dX11_law_3 : decode cX11_law 3 = .ok (.iload_n 3, 1) := by decide +kernel
theorem dX11_law_4 : decode cX11_law 4 = .ok (.aload_n 0, 1) := by decide +kernel
theorem dX11_law_5 : decode cX11_law 5 = .ok (.getfield 10, 3) := by decide +kernel
theorem dX11_law_8 : decode cX11_law 8 = .ok (.getfield 206, 3) := by decide +kernel
theorem dX11_law_11 : decode cX11_law 11 = .ok (.bipush 12, 2) := by decide +kernel
theorem dX11_law_13 : decode cX11_law 13 = .ok (.if_icmp .ge 7, 3) := by decide +kernel
theorem dX11_law_16 : decode cX11_law 16 = .ok (.iconst 1, 1) := by decide +kernel
theorem dX11_law_17 : decode cX11_law 17 = .ok (.goto 4, 3) := by decide +kernel
theorem dX11_law_20 : decode cX11_law 20 = .ok (.iconst 0, 1) := by decide +kernel
theorem dX11_law_21 : decode cX11_law 21 = .ok (.invokevirtual 244, 3) := by decide +kernel
theorem dX11_law_24 : decode cX11_law 24 = .ok (.istore 4, 2) := by decide +kernel
theorem dX11_law_26 : decode cX11_law 26 = .ok (.iload 4, 2) := by decide +kernel
theorem dX11_law_28 : decode cX11_law 28 = .ok (.bipush 9, 2) := by decide +kernel
theorem dX11_law_30 : decode cX11_law 30 = .ok (.if_icmp .ne 6, 3) := by decide +kernel
theorem dX11_law_33 : decode cX11_law 33 = .ok (.bipush (-9), 2) := by decide +kernel
theorem dX11_law_35 : decode cX11_law 35 = .ok (.ireturn, 1) := by decide +kernel
theorem dX11_law_36 : decode cX11_law 36 = .ok (.iload 4, 2) := by decide +kernel
theorem dX11_law_38 : decode cX11_law 38 = .ok (.ifCond .eq 8, 3) := by decide +kernel
theorem dX11_law_41 : decode cX11_law 41 = .ok (.iconst (-1), 1) := by decide +kernel
theorem dX11_law_42 : decode cX11_law 42 = .ok (.iload 4, 2) := by decide +kernel
theorem dX11_law_44 : decode cX11_law 44 = .ok (.isub, 1) := by decide +kernel
theorem dX11_law_45 : decode cX11_law 45 = .ok (.ireturn, 1) := by decide +kernel
theorem dX11_law_46 : decode cX11_law 46 = .ok (.aload_n 0, 1) := by decide +kernel
theorem dX11_law_47 : decode cX11_law 47 = .ok (.getfield 55, 3) := by decide +kernel
theorem dX11_law_50 : decode cX11_law 50 = .ok (.aload_n 0, 1) := by decide +kernel
theorem dX11_law_51 : decode cX11_law 51 = .ok (.getfield 10, 3) := by decide +kernel
theorem dX11_law_54 : decode cX11_law 54 = .ok (.getfield 148, 3) := by decide +kernel
theorem dX11_law_57 : decode cX11_law 57 = .ok (.putfield 248, 3) := by decide +kernel
theorem dX11_law_60 : decode cX11_law 60 = .ok (.aload_n 0, 1) := by decide +kernel
theorem dX11_law_61 : decode cX11_law 61 = .ok (.getfield 10, 3) := by decide +kernel
theorem dX11_law_64 : decode cX11_law 64 = .ok (.getfield 251, 3) := by decide +kernel
theorem dX11_law_67 : decode cX11_law 67 = .ok (.aload_n 0, 1) := by decide +kernel
theorem dX11_law_68 : decode cX11_law 68 = .ok (.getfield 10, 3) := by decide +kernel
theorem dX11_law_71 : decode cX11_law 71 = .ok (.getfield 206, 3) := by decide +kernel
theorem dX11_law_74 : decode cX11_law 74 = .ok (.aload_n 0, 1) := by decide +kernel
theorem dX11_law_75 : decode cX11_law 75 = .ok (.getfield 55, 3) := by decide +kernel
theorem dX11_law_78 : decode cX11_law 78 = .ok (.aastore, 1) := by decide +kernel
theorem dX11_law_79 : decode cX11_law 79 = .ok (.aload_n 0, 1) := by decide +kernel
theorem dX11_law_80 : decode cX11_law 80 = .ok (.getfield 10, 3) := by decide +kernel
theorem dX11_law_83 : decode cX11_law 83 = .ok (.dup, 1) := by decide +kernel
theorem dX11_law_84 : decode cX11_law 84 = .ok (.getfield 206, 3) := by decide +kernel
theorem dX11_law_87 : decode cX11_law 87 = .ok (.iconst 1, 1) := by decide +kernel
theorem dX11_law_88 : decode cX11_law 88 = .ok (.iadd, 1) := by decide +kernel
theorem dX11_law_89 : decode cX11_law 89 = .ok (.putfield 206, 3) := by decide +kernel
theorem dX11_law_92 : decode cX11_law 92 = .ok (.aload_n 0, 1) := by decide +kernel
theorem dX11_law_93 : decode cX11_law 93 = .ok (.new 52, 3) := by decide +kernel
theorem dX11_law_96 : decode cX11_law 96 = .ok (.dup, 1) := by decide +kernel
theorem dX11_law_97 : decode cX11_law 97 = .ok (.invokespecial 54, 3) := by decide +kernel
theorem dX11_law_100 : decode cX11_law 100 = .ok (.putfield 55, 3) := by decide +kernel
theorem dX11_law_103 : decode cX11_law 103 = .ok (.aload_n 0, 1) := by decide +kernel
theorem dX11_law_104 : decode cX11_law 104 = .ok (.getfield 10, 3) := by decide +kernel
theorem dX11_law_107 : decode cX11_law 107 = .ok (.getfield 206, 3) := by decide +kernel
theorem dX11_law_110 : decode cX11_law 110 = .ok (.iconst 1, 1) := by decide +kernel
theorem dX11_law_111 : decode cX11_law 111 = .ok (.isub, 1) := by decide +kernel
theorem dX11_law_112 : decode cX11_law 112 = .ok (.ireturn, 1) := by decide +kernel
theorem dX11_fault_0 : decode cX11_fault 0 = .ok (.aload_n 0, 1) := by decide +kernel
theorem dX11_fault_1 : decode cX11_fault 1 = .ok (.getfield 49, 3) := by decide +kernel
theorem dX11_fault_4 : decode cX11_fault 4 = .ok (.ireturn, 1) := by decide +kernel
theorem dX11_sold_0 : decode cX11_sold 0 = .ok (.aload_n 0, 1) := by decide +kernel
theorem dX11_sold_1 : decode cX11_sold 1 = .ok (.iload_n 1, 1) := by decide +kernel
theorem dX11_sold_2 : decode cX11_sold 2 = .ok (.invokevirtual 228, 3) := by decide +kernel
theorem dX11_sold_5 : decode cX11_sold 5 = .ok (.aload_n 0, 1) := by decide +kernel
theorem dX11_sold_6 : decode cX11_sold 6 = .ok (.iload_n 2, 1) := by decide +kernel
theorem dX11_sold_7 : decode cX11_sold 7 = .ok (.bipush 7, 2) := by decide +kernel
theorem dX11_sold_9 : decode cX11_sold 9 = .ok (.invokevirtual 255, 3) := by decide +kernel
theorem dX11_sold_12 : decode cX11_sold 12 = .ok (.aload_n 0, 1) := by decide +kernel
theorem dX11_sold_13 : decode cX11_sold 13 = .ok (.iload_n 3, 1) := by decide +kernel
theorem dX11_sold_14 : decode cX11_sold 14 = .ok (.invokevirtual 258, 3) := by decide +kernel
theorem dX11_sold_17 : decode cX11_sold 17 = .ok (.aload_n 0, 1) := by decide +kernel
theorem dX11_sold_18 : decode cX11_sold 18 = .ok (.getfield 10, 3) := by decide +kernel
theorem dX11_sold_21 : decode cX11_sold 21 = .ok (.iload_n 1, 1) := by decide +kernel
theorem dX11_sold_22 : decode cX11_sold 22 = .ok (.invokevirtual 218, 3) := by decide +kernel
theorem dX11_sold_25 : decode cX11_sold 25 = .ok (.astore 4, 2) := by decide +kernel
theorem dX11_sold_27 : decode cX11_sold 27 = .ok (.aload 4, 2) := by decide +kernel
theorem dX11_sold_29 : decode cX11_sold 29 = .ok (.iload_n 3, 1) := by decide +kernel
theorem dX11_sold_30 : decode cX11_sold 30 = .ok (.invokevirtual 261, 3) := by decide +kernel
theorem dX11_sold_33 : decode cX11_sold 33 = .ok (.ifCond .ne 5, 3) := by decide +kernel
theorem dX11_sold_36 : decode cX11_sold 36 = .ok (.iconst (-1), 1) := by decide +kernel
theorem dX11_sold_37 : decode cX11_sold 37 = .ok (.ireturn, 1) := by decide +kernel
theorem dX11_sold_38 : decode cX11_sold 38 = .ok (.aload_n 0, 1) := by decide +kernel
theorem dX11_sold_39 : decode cX11_sold 39 = .ok (.getfield 21, 3) := by decide +kernel
theorem dX11_sold_42 : decode cX11_sold 42 = .ok (.iload_n 3, 1) := by decide +kernel
theorem dX11_sold_43 : decode cX11_sold 43 = .ok (.invokevirtual 264, 3) := by decide +kernel
theorem dX11_sold_46 : decode cX11_sold 46 = .ok (.aload_n 0, 1) := by decide +kernel
theorem dX11_sold_47 : decode cX11_sold 47 = .ok (.getfield 21, 3) := by decide +kernel
theorem dX11_sold_50 : decode cX11_sold 50 = .ok (.aload 4, 2) := by decide +kernel
theorem dX11_sold_52 : decode cX11_sold 52 = .ok (.iload_n 1, 1) := by decide +kernel
theorem dX11_sold_53 : decode cX11_sold 53 = .ok (.invokevirtual 267, 3) := by decide +kernel
theorem dX11_sold_56 : decode cX11_sold 56 = .ok (.iload_n 2, 1) := by decide +kernel
theorem dX11_sold_57 : decode cX11_sold 57 = .ok (.tableswitch 123 0 6 #[43, 51, 67, 75, 83, 96, 115], 43) := by decide +kernel
theorem dX11_sold_100 : decode cX11_sold 100 = .ok (.aload_n 0, 1) := by decide +kernel
theorem dX11_sold_101 : decode cX11_sold 101 = .ok (.getfield 21, 3) := by decide +kernel
theorem dX11_sold_104 : decode cX11_sold 104 = .ok (.getfield 271, 3) := by decide +kernel
theorem dX11_sold_107 : decode cX11_sold 107 = .ok (.ireturn, 1) := by decide +kernel
theorem dX11_sold_108 : decode cX11_sold 108 = .ok (.aload_n 0, 1) := by decide +kernel
theorem dX11_sold_109 : decode cX11_sold 109 = .ok (.getfield 21, 3) := by decide +kernel
theorem dX11_sold_112 : decode cX11_sold 112 = .ok (.getfield 272, 3) := by decide +kernel
theorem dX11_sold_115 : decode cX11_sold 115 = .ok (.ifCond .eq 7, 3) := by decide +kernel
theorem dX11_sold_118 : decode cX11_sold 118 = .ok (.iconst 1, 1) := by decide +kernel
theorem dX11_sold_119 : decode cX11_sold 119 = .ok (.goto 4, 3) := by decide +kernel
theorem dX11_sold_122 : decode cX11_sold 122 = .ok (.iconst 0, 1) := by decide +kernel
theorem dX11_sold_123 : decode cX11_sold 123 = .ok (.ireturn, 1) := by decide +kernel
theorem dX11_sold_124 : decode cX11_sold 124 = .ok (.aload_n 0, 1) := by decide +kernel
theorem dX11_sold_125 : decode cX11_sold 125 = .ok (.getfield 21, 3) := by decide +kernel
theorem dX11_sold_128 : decode cX11_sold 128 = .ok (.getfield 276, 3) := by decide +kernel
theorem dX11_sold_131 : decode cX11_sold 131 = .ok (.ireturn, 1) := by decide +kernel
theorem dX11_sold_132 : decode cX11_sold 132 = .ok (.aload_n 0, 1) := by decide +kernel
theorem dX11_sold_133 : decode cX11_sold 133 = .ok (.getfield 21, 3) := by decide +kernel
theorem dX11_sold_136 : decode cX11_sold 136 = .ok (.getfield 279, 3) := by decide +kernel
theorem dX11_sold_139 : decode cX11_sold 139 = .ok (.ireturn, 1) := by decide +kernel
theorem dX11_sold_140 : decode cX11_sold 140 = .ok (.aload_n 0, 1) := by decide +kernel
theorem dX11_sold_141 : decode cX11_sold 141 = .ok (.getfield 10, 3) := by decide +kernel
theorem dX11_sold_144 : decode cX11_sold 144 = .ok (.aload 4, 2) := by decide +kernel
theorem dX11_sold_146 : decode cX11_sold 146 = .ok (.getfield 189, 3) := by decide +kernel
theorem dX11_sold_149 : decode cX11_sold 149 = .ok (.invokevirtual 282, 3) := by decide +kernel
theorem dX11_sold_152 : decode cX11_sold 152 = .ok (.ireturn, 1) := by decide +kernel
theorem dX11_sold_153 : decode cX11_sold 153 = .ok (.aload_n 0, 1) := by decide +kernel
theorem dX11_sold_154 : decode cX11_sold 154 = .ok (.getfield 10, 3) := by decide +kernel
theorem dX11_sold_157 : decode cX11_sold 157 = .ok (.aload 4, 2) := by decide +kernel
theorem dX11_sold_159 : decode cX11_sold 159 = .ok (.getfield 189, 3) := by decide +kernel
theorem dX11_sold_162 : decode cX11_sold 162 = .ok (.aload 4, 2) := by decide +kernel
theorem dX11_sold_164 : decode cX11_sold 164 = .ok (.getfield 285, 3) := by decide +kernel
theorem dX11_sold_167 : decode cX11_sold 167 = .ok (.iload_n 3, 1) := by decide +kernel
theorem dX11_sold_168 : decode cX11_sold 168 = .ok (.invokevirtual 288, 3) := by decide +kernel
theorem dX11_sold_171 : decode cX11_sold 171 = .ok (.ireturn, 1) := by decide +kernel
theorem dX11_sold_172 : decode cX11_sold 172 = .ok (.aload_n 0, 1) := by decide +kernel
theorem dX11_sold_173 : decode cX11_sold 173 = .ok (.getfield 21, 3) := by decide +kernel
theorem dX11_sold_176 : decode cX11_sold 176 = .ok (.getfield 292, 3) := by decide +kernel
theorem dX11_sold_179 : decode cX11_sold 179 = .ok (.ireturn, 1) := by decide +kernel
theorem dX11_sold_180 : decode cX11_sold 180 = .ok (.aload_n 0, 1) := by decide +kernel
theorem dX11_sold_181 : decode cX11_sold 181 = .ok (.getfield 21, 3) := by decide +kernel
theorem dX11_sold_184 : decode cX11_sold 184 = .ok (.getfield 295, 3) := by decide +kernel
theorem dX11_sold_187 : decode cX11_sold 187 = .ok (.ireturn, 1) := by decide +kernel
theorem dX11_has_0 : decode cX11_has 0 = .ok (.aload_n 0, 1) := by decide +kernel
theorem dX11_has_1 : decode cX11_has 1 = .ok (.iload_n 1, 1) := by decide +kernel
theorem dX11_has_2 : decode cX11_has 2 = .ok (.invokevirtual 228, 3) := by decide +kernel
theorem dX11_has_5 : decode cX11_has 5 = .ok (.aload_n 0, 1) := by decide +kernel
theorem dX11_has_6 : decode cX11_has 6 = .ok (.iload_n 2, 1) := by decide +kernel
theorem dX11_has_7 : decode cX11_has 7 = .ok (.invokevirtual 103, 3) := by decide +kernel
theorem dX11_has_10 : decode cX11_has 10 = .ok (.aload_n 0, 1) := by decide +kernel
theorem dX11_has_11 : decode cX11_has 11 = .ok (.iload_n 3, 1) := by decide +kernel
theorem dX11_has_12 : decode cX11_has 12 = .ok (.iconst 3, 1) := by decide +kernel
theorem dX11_has_13 : decode cX11_has 13 = .ok (.invokevirtual 255, 3) := by decide +kernel
theorem dX11_has_16 : decode cX11_has 16 = .ok (.aload_n 0, 1) := by decide +kernel
theorem dX11_has_17 : decode cX11_has 17 = .ok (.iload 4, 2) := by decide +kernel
theorem dX11_has_19 : decode cX11_has 19 = .ok (.invokevirtual 258, 3) := by decide +kernel
theorem dX11_has_22 : decode cX11_has 22 = .ok (.aload_n 0, 1) := by decide +kernel
theorem dX11_has_23 : decode cX11_has 23 = .ok (.getfield 10, 3) := by decide +kernel
theorem dX11_has_26 : decode cX11_has 26 = .ok (.iload_n 1, 1) := by decide +kernel
theorem dX11_has_27 : decode cX11_has 27 = .ok (.invokevirtual 218, 3) := by decide +kernel
theorem dX11_has_30 : decode cX11_has 30 = .ok (.astore 5, 2) := by decide +kernel
theorem dX11_has_32 : decode cX11_has 32 = .ok (.aload 5, 2) := by decide +kernel
theorem dX11_has_34 : decode cX11_has 34 = .ok (.iload 4, 2) := by decide +kernel
theorem dX11_has_36 : decode cX11_has 36 = .ok (.invokevirtual 261, 3) := by decide +kernel
theorem dX11_has_39 : decode cX11_has 39 = .ok (.ifCond .ne 5, 3) := by decide +kernel
theorem dX11_has_42 : decode cX11_has 42 = .ok (.iconst 0, 1) := by decide +kernel
theorem dX11_has_43 : decode cX11_has 43 = .ok (.ireturn, 1) := by decide +kernel
theorem dX11_has_44 : decode cX11_has 44 = .ok (.aload_n 0, 1) := by decide +kernel
theorem dX11_has_45 : decode cX11_has 45 = .ok (.getfield 21, 3) := by decide +kernel
theorem dX11_has_48 : decode cX11_has 48 = .ok (.iload 4, 2) := by decide +kernel
theorem dX11_has_50 : decode cX11_has 50 = .ok (.invokevirtual 264, 3) := by decide +kernel
theorem dX11_has_53 : decode cX11_has 53 = .ok (.aload_n 0, 1) := by decide +kernel
theorem dX11_has_54 : decode cX11_has 54 = .ok (.getfield 21, 3) := by decide +kernel
theorem dX11_has_57 : decode cX11_has 57 = .ok (.aload 5, 2) := by decide +kernel
theorem dX11_has_59 : decode cX11_has 59 = .ok (.iload_n 1, 1) := by decide +kernel
theorem dX11_has_60 : decode cX11_has 60 = .ok (.invokevirtual 267, 3) := by decide +kernel
theorem dX11_has_63 : decode cX11_has 63 = .ok (.iload_n 3, 1) := by decide +kernel
theorem dX11_has_64 : decode cX11_has 64 = .ok (.tableswitch 58 0 2 #[28, 38, 48], 28) := by decide +kernel
theorem dX11_has_92 : decode cX11_has 92 = .ok (.aload_n 0, 1) := by decide +kernel
theorem dX11_has_93 : decode cX11_has 93 = .ok (.getfield 21, 3) := by decide +kernel
theorem dX11_has_96 : decode cX11_has 96 = .ok (.getfield 298, 3) := by decide +kernel
theorem dX11_has_99 : decode cX11_has 99 = .ok (.iload_n 2, 1) := by decide +kernel
theorem dX11_has_100 : decode cX11_has 100 = .ok (.iaload, 1) := by decide +kernel
theorem dX11_has_101 : decode cX11_has 101 = .ok (.ireturn, 1) := by decide +kernel
theorem dX11_has_102 : decode cX11_has 102 = .ok (.aload_n 0, 1) := by decide +kernel
theorem dX11_has_103 : decode cX11_has 103 = .ok (.getfield 21, 3) := by decide +kernel
theorem dX11_has_106 : decode cX11_has 106 = .ok (.getfield 301, 3) := by decide +kernel
theorem dX11_has_109 : decode cX11_has 109 = .ok (.iload_n 2, 1) := by decide +kernel
theorem dX11_has_110 : decode cX11_has 110 = .ok (.iaload, 1) := by decide +kernel
theorem dX11_has_111 : decode cX11_has 111 = .ok (.ireturn, 1) := by decide +kernel
theorem dX11_has_112 : decode cX11_has 112 = .ok (.aload_n 0, 1) := by decide +kernel
theorem dX11_has_113 : decode cX11_has 113 = .ok (.getfield 21, 3) := by decide +kernel
theorem dX11_has_116 : decode cX11_has 116 = .ok (.getfield 304, 3) := by decide +kernel
theorem dX11_has_119 : decode cX11_has 119 = .ok (.iload_n 2, 1) := by decide +kernel
theorem dX11_has_120 : decode cX11_has 120 = .ok (.iaload, 1) := by decide +kernel
theorem dX11_has_121 : decode cX11_has 121 = .ok (.ireturn, 1) := by decide +kernel
theorem dX11_has_122 : decode cX11_has 122 = .ok (.aload_n 0, 1) := by decide +kernel
theorem dX11_has_123 : decode cX11_has 123 = .ok (.getfield 21, 3) := by decide +kernel
theorem dX11_has_126 : decode cX11_has 126 = .ok (.getfield 307, 3) := by decide +kernel
theorem dX11_has_129 : decode cX11_has 129 = .ok (.iload_n 2, 1) := by decide +kernel
theorem dX11_has_130 : decode cX11_has 130 = .ok (.iaload, 1) := by decide +kernel
theorem dX11_has_131 : decode cX11_has 131 = .ok (.ireturn, 1) := by decide +kernel
theorem dX11_gets_0 : decode cX11_gets 0 = .ok (.aload_n 0, 1) := by decide +kernel
theorem dX11_gets_1 : decode cX11_gets 1 = .ok (.iload_n 1, 1) := by decide +kernel
theorem dX11_gets_2 : decode cX11_gets 2 = .ok (.invokevirtual 103, 3) := by decide +kernel
theorem dX11_gets_5 : decode cX11_gets 5 = .ok (.aload_n 0, 1) := by decide +kernel
theorem dX11_gets_6 : decode cX11_gets 6 = .ok (.iload_n 2, 1) := by decide +kernel
theorem dX11_gets_7 : decode cX11_gets 7 = .ok (.invokevirtual 310, 3) := by decide +kernel
theorem dX11_gets_10 : decode cX11_gets 10 = .ok (.aload_n 0, 1) := by decide +kernel
theorem dX11_gets_11 : decode cX11_gets 11 = .ok (.iload_n 3, 1) := by decide +kernel
theorem dX11_gets_12 : decode cX11_gets 12 = .ok (.invokevirtual 258, 3) := by decide +kernel
theorem dX11_gets_15 : decode cX11_gets 15 = .ok (.aload_n 0, 1) := by decide +kernel
theorem dX11_gets_16 : decode cX11_gets 16 = .ok (.getfield 21, 3) := by decide +kernel
theorem dX11_gets_19 : decode cX11_gets 19 = .ok (.iload_n 3, 1) := by decide +kernel
theorem dX11_gets_20 : decode cX11_gets 20 = .ok (.invokevirtual 264, 3) := by decide +kernel
theorem dX11_gets_23 : decode cX11_gets 23 = .ok (.lconst 0, 1) := by decide +kernel
theorem dX11_gets_24 : decode cX11_gets 24 = .ok (.lstore 4, 2) := by decide +kernel
theorem dX11_gets_26 : decode cX11_gets 26 = .ok (.iconst 0, 1) := by decide +kernel
theorem dX11_gets_27 : decode cX11_gets 27 = .ok (.istore 6, 2) := by decide +kernel
theorem dX11_gets_29 : decode cX11_gets 29 = .ok (.iload 6, 2) := by decide +kernel
theorem dX11_gets_31 : decode cX11_gets 31 = .ok (.aload_n 0, 1) := by decide +kernel
theorem dX11_gets_32 : decode cX11_gets 32 = .ok (.getfield 10, 3) := by decide +kernel
theorem dX11_gets_35 : decode cX11_gets 35 = .ok (.getfield 209, 3) := by decide +kernel
theorem dX11_gets_38 : decode cX11_gets 38 = .ok (.if_icmp .ge 64, 3) := by decide +kernel
theorem dX11_gets_41 : decode cX11_gets 41 = .ok (.aload_n 0, 1) := by decide +kernel
theorem dX11_gets_42 : decode cX11_gets 42 = .ok (.getfield 10, 3) := by decide +kernel
theorem dX11_gets_45 : decode cX11_gets 45 = .ok (.iload 6, 2) := by decide +kernel
theorem dX11_gets_47 : decode cX11_gets 47 = .ok (.invokevirtual 218, 3) := by decide +kernel
theorem dX11_gets_50 : decode cX11_gets 50 = .ok (.astore 7, 2) := by decide +kernel
theorem dX11_gets_52 : decode cX11_gets 52 = .ok (.aload 7, 2) := by decide +kernel
theorem dX11_gets_54 : decode cX11_gets 54 = .ok (.iload_n 2, 1) := by decide +kernel
theorem dX11_gets_55 : decode cX11_gets 55 = .ok (.invokevirtual 313, 3) := by decide +kernel
theorem dX11_gets_58 : decode cX11_gets 58 = .ok (.ifCond .eq 38, 3) := by decide +kernel
theorem dX11_gets_61 : decode cX11_gets 61 = .ok (.aload 7, 2) := by decide +kernel
theorem dX11_gets_63 : decode cX11_gets 63 = .ok (.iload_n 3, 1) := by decide +kernel
theorem dX11_gets_64 : decode cX11_gets 64 = .ok (.invokevirtual 261, 3) := by decide +kernel
theorem dX11_gets_67 : decode cX11_gets 67 = .ok (.ifCond .eq 29, 3) := by decide +kernel
theorem dX11_gets_70 : decode cX11_gets 70 = .ok (.aload_n 0, 1) := by decide +kernel
theorem dX11_gets_71 : decode cX11_gets 71 = .ok (.getfield 21, 3) := by decide +kernel
theorem dX11_gets_74 : decode cX11_gets 74 = .ok (.aload 7, 2) := by decide +kernel
theorem dX11_gets_76 : decode cX11_gets 76 = .ok (.iload 6, 2) := by decide +kernel
theorem dX11_gets_78 : decode cX11_gets 78 = .ok (.invokevirtual 267, 3) := by decide +kernel
theorem dX11_gets_81 : decode cX11_gets 81 = .ok (.lload 4, 2) := by decide +kernel
theorem dX11_gets_83 : decode cX11_gets 83 = .ok (.aload_n 0, 1) := by decide +kernel
theorem dX11_gets_84 : decode cX11_gets 84 = .ok (.getfield 21, 3) := by decide +kernel
theorem dX11_gets_87 : decode cX11_gets 87 = .ok (.getfield 307, 3) := by decide +kernel
theorem dX11_gets_90 : decode cX11_gets 90 = .ok (.iload_n 1, 1) := by decide +kernel
theorem dX11_gets_91 : decode cX11_gets 91 = .ok (.iaload, 1) := by decide +kernel
theorem dX11_gets_92 : decode cX11_gets 92 = .ok (.i2l, 1) := by decide +kernel
theorem dX11_gets_93 : decode cX11_gets 93 = .ok (.ladd, 1) := by decide +kernel
theorem dX11_gets_94 : decode cX11_gets 94 = .ok (.lstore 4, 2) := by decide +kernel
theorem dX11_gets_96 : decode cX11_gets 96 = .ok (.iinc 6 1, 3) := by decide +kernel
theorem dX11_gets_99 : decode cX11_gets 99 = .ok (.goto (-70), 3) := by decide +kernel
theorem dX11_gets_102 : decode cX11_gets 102 = .ok (.lload 4, 2) := by decide +kernel
theorem dX11_gets_104 : decode cX11_gets 104 = .ok (.lreturn, 1) := by decide +kernel
theorem dX11_owes_0 : decode cX11_owes 0 = .ok (.aload_n 0, 1) := by decide +kernel
theorem dX11_owes_1 : decode cX11_owes 1 = .ok (.iload_n 1, 1) := by decide +kernel
theorem dX11_owes_2 : decode cX11_owes 2 = .ok (.invokevirtual 203, 3) := by decide +kernel
theorem dX11_owes_5 : decode cX11_owes 5 = .ok (.aload_n 0, 1) := by decide +kernel
theorem dX11_owes_6 : decode cX11_owes 6 = .ok (.iload_n 2, 1) := by decide +kernel
theorem dX11_owes_7 : decode cX11_owes 7 = .ok (.invokevirtual 203, 3) := by decide +kernel
theorem dX11_owes_10 : decode cX11_owes 10 = .ok (.aload_n 0, 1) := by decide +kernel
theorem dX11_owes_11 : decode cX11_owes 11 = .ok (.iload_n 3, 1) := by decide +kernel
theorem dX11_owes_12 : decode cX11_owes 12 = .ok (.invokevirtual 310, 3) := by decide +kernel
theorem dX11_owes_15 : decode cX11_owes 15 = .ok (.aload_n 0, 1) := by decide +kernel
theorem dX11_owes_16 : decode cX11_owes 16 = .ok (.iload 4, 2) := by decide +kernel
theorem dX11_owes_18 : decode cX11_owes 18 = .ok (.invokevirtual 258, 3) := by decide +kernel
theorem dX11_owes_21 : decode cX11_owes 21 = .ok (.aload_n 0, 1) := by decide +kernel
theorem dX11_owes_22 : decode cX11_owes 22 = .ok (.getfield 30, 3) := by decide +kernel
theorem dX11_owes_25 : decode cX11_owes 25 = .ok (.iload_n 3, 1) := by decide +kernel
theorem dX11_owes_26 : decode cX11_owes 26 = .ok (.iload 4, 2) := by decide +kernel
theorem dX11_owes_28 : decode cX11_owes 28 = .ok (.invokevirtual 316, 3) := by decide +kernel
theorem dX11_owes_31 : decode cX11_owes 31 = .ok (.aload_n 0, 1) := by decide +kernel
theorem dX11_owes_32 : decode cX11_owes 32 = .ok (.getfield 30, 3) := by decide +kernel
theorem dX11_owes_35 : decode cX11_owes 35 = .ok (.iload_n 1, 1) := by decide +kernel
theorem dX11_owes_36 : decode cX11_owes 36 = .ok (.iload_n 2, 1) := by decide +kernel
theorem dX11_owes_37 : decode cX11_owes 37 = .ok (.invokevirtual 319, 3) := by decide +kernel
theorem dX11_owes_40 : decode cX11_owes 40 = .ok (.lreturn, 1) := by decide +kernel
theorem dX11_net_0 : decode cX11_net 0 = .ok (.aload_n 0, 1) := by decide +kernel
theorem dX11_net_1 : decode cX11_net 1 = .ok (.iload_n 1, 1) := by decide +kernel
theorem dX11_net_2 : decode cX11_net 2 = .ok (.invokevirtual 203, 3) := by decide +kernel
theorem dX11_net_5 : decode cX11_net 5 = .ok (.aload_n 0, 1) := by decide +kernel
theorem dX11_net_6 : decode cX11_net 6 = .ok (.iload_n 2, 1) := by decide +kernel
theorem dX11_net_7 : decode cX11_net 7 = .ok (.invokevirtual 310, 3) := by decide +kernel
theorem dX11_net_10 : decode cX11_net 10 = .ok (.aload_n 0, 1) := by decide +kernel
theorem dX11_net_11 : decode cX11_net 11 = .ok (.iload_n 3, 1) := by decide +kernel
theorem dX11_net_12 : decode cX11_net 12 = .ok (.invokevirtual 258, 3) := by decide +kernel
theorem dX11_net_15 : decode cX11_net 15 = .ok (.aload_n 0, 1) := by decide +kernel
theorem dX11_net_16 : decode cX11_net 16 = .ok (.getfield 30, 3) := by decide +kernel
theorem dX11_net_19 : decode cX11_net 19 = .ok (.iload_n 2, 1) := by decide +kernel
theorem dX11_net_20 : decode cX11_net 20 = .ok (.iload_n 3, 1) := by decide +kernel
theorem dX11_net_21 : decode cX11_net 21 = .ok (.invokevirtual 316, 3) := by decide +kernel
theorem dX11_net_24 : decode cX11_net 24 = .ok (.aload_n 0, 1) := by decide +kernel
theorem dX11_net_25 : decode cX11_net 25 = .ok (.getfield 30, 3) := by decide +kernel
theorem dX11_net_28 : decode cX11_net 28 = .ok (.iload_n 1, 1) := by decide +kernel
theorem dX11_net_29 : decode cX11_net 29 = .ok (.invokevirtual 323, 3) := by decide +kernel
theorem dX11_net_32 : decode cX11_net 32 = .ok (.lreturn, 1) := by decide +kernel
theorem dX11_payments_0 : decode cX11_payments 0 = .ok (.aload_n 0, 1) := by decide +kernel
theorem dX11_payments_1 : decode cX11_payments 1 = .ok (.iload_n 1, 1) := by decide +kernel
theorem dX11_payments_2 : decode cX11_payments 2 = .ok (.invokevirtual 310, 3) := by decide +kernel
theorem dX11_payments_5 : decode cX11_payments 5 = .ok (.aload_n 0, 1) := by decide +kernel
theorem dX11_payments_6 : decode cX11_payments 6 = .ok (.iload_n 2, 1) := by decide +kernel
theorem dX11_payments_7 : decode cX11_payments 7 = .ok (.invokevirtual 258, 3) := by decide +kernel
theorem dX11_payments_10 : decode cX11_payments 10 = .ok (.aload_n 0, 1) := by decide +kernel
theorem dX11_payments_11 : decode cX11_payments 11 = .ok (.getfield 30, 3) := by decide +kernel
theorem dX11_payments_14 : decode cX11_payments 14 = .ok (.iload_n 1, 1) := by decide +kernel
theorem dX11_payments_15 : decode cX11_payments 15 = .ok (.iload_n 2, 1) := by decide +kernel
theorem dX11_payments_16 : decode cX11_payments 16 = .ok (.invokevirtual 316, 3) := by decide +kernel
theorem dX11_payments_19 : decode cX11_payments 19 = .ok (.aload_n 0, 1) := by decide +kernel
theorem dX11_payments_20 : decode cX11_payments 20 = .ok (.getfield 30, 3) := by decide +kernel
theorem dX11_payments_23 : decode cX11_payments 23 = .ok (.invokevirtual 327, 3) := by decide +kernel
theorem dX11_payments_26 : decode cX11_payments 26 = .ok (.ireturn, 1) := by decide +kernel
theorem dX11_again_0 : decode cX11_again 0 = .ok (.iload 4, 2) := by decide +kernel
theorem dX11_again_2 : decode cX11_again 2 = .ok (.ifCond .ge 14, 3) := by decide +kernel
theorem dX11_again_5 : decode cX11_again 5 = .ok (.new 151, 3) := by decide +kernel
theorem dX11_again_8 : decode cX11_again 8 = .ok (.dup, 1) := by decide +kernel
theorem dX11_again_9 : decode cX11_again 9 = .ok (.ldc_w 331, 3) := by decide +kernel
theorem dX11_again_12 : decode cX11_again 12 = .ok (.invokespecial 155, 3) := by decide +kernel
theorem dX11_again_15 : decode cX11_again 15 = .ok (.athrow, 1) := by decide +kernel
theorem dX11_again_16 : decode cX11_again 16 = .ok (.iconst 0, 1) := by decide +kernel
theorem dX11_again_17 : decode cX11_again 17 = .ok (.istore 5, 2) := by decide +kernel
theorem dX11_again_19 : decode cX11_again 19 = .ok (.iconst 0, 1) := by decide +kernel
theorem dX11_again_20 : decode cX11_again 20 = .ok (.istore 6, 2) := by decide +kernel
theorem dX11_again_22 : decode cX11_again 22 = .ok (.iload 6, 2) := by decide +kernel
theorem dX11_again_24 : decode cX11_again 24 = .ok (.aload_n 0, 1) := by decide +kernel
theorem dX11_again_25 : decode cX11_again 25 = .ok (.getfield 10, 3) := by decide +kernel
theorem dX11_again_28 : decode cX11_again 28 = .ok (.getfield 107, 3) := by decide +kernel
theorem dX11_again_31 : decode cX11_again 31 = .ok (.if_icmp .ge 38, 3) := by decide +kernel
theorem dX11_again_34 : decode cX11_again 34 = .ok (.aload_n 0, 1) := by decide +kernel
theorem dX11_again_35 : decode cX11_again 35 = .ok (.getfield 10, 3) := by decide +kernel
theorem dX11_again_38 : decode cX11_again 38 = .ok (.iload 6, 2) := by decide +kernel
theorem dX11_again_40 : decode cX11_again 40 = .ok (.invokevirtual 125, 3) := by decide +kernel
theorem dX11_again_43 : decode cX11_again 43 = .ok (.iload_n 1, 1) := by decide +kernel
theorem dX11_again_44 : decode cX11_again 44 = .ok (.iload_n 2, 1) := by decide +kernel
theorem dX11_again_45 : decode cX11_again 45 = .ok (.iload_n 3, 1) := by decide +kernel
theorem dX11_again_46 : decode cX11_again 46 = .ok (.iload 4, 2) := by decide +kernel
theorem dX11_again_48 : decode cX11_again 48 = .ok (.invokevirtual 333, 3) := by decide +kernel
theorem dX11_again_51 : decode cX11_again 51 = .ok (.ifCond .eq 12, 3) := by decide +kernel
theorem dX11_again_54 : decode cX11_again 54 = .ok (.iload 5, 2) := by decide +kernel
theorem dX11_again_56 : decode cX11_again 56 = .ok (.iconst 1, 1) := by decide +kernel
theorem dX11_again_57 : decode cX11_again 57 = .ok (.iload 6, 2) := by decide +kernel
theorem dX11_again_59 : decode cX11_again 59 = .ok (.ishl, 1) := by decide +kernel
theorem dX11_again_60 : decode cX11_again 60 = .ok (.ior, 1) := by decide +kernel
theorem dX11_again_61 : decode cX11_again 61 = .ok (.istore 5, 2) := by decide +kernel
theorem dX11_again_63 : decode cX11_again 63 = .ok (.iinc 6 1, 3) := by decide +kernel
theorem dX11_again_66 : decode cX11_again 66 = .ok (.goto (-44), 3) := by decide +kernel
theorem dX11_again_69 : decode cX11_again 69 = .ok (.iload 5, 2) := by decide +kernel
theorem dX11_again_71 : decode cX11_again 71 = .ok (.ireturn, 1) := by decide +kernel
theorem dX11_with_0 : decode cX11_with 0 = .ok (.aload_n 0, 1) := by decide +kernel
theorem dX11_with_1 : decode cX11_with 1 = .ok (.iload_n 1, 1) := by decide +kernel
theorem dX11_with_2 : decode cX11_with 2 = .ok (.invokevirtual 122, 3) := by decide +kernel
theorem dX11_with_5 : decode cX11_with 5 = .ok (.iload_n 2, 1) := by decide +kernel
theorem dX11_with_6 : decode cX11_with 6 = .ok (.invokestatic 73, 3) := by decide +kernel
theorem dX11_with_9 : decode cX11_with 9 = .ok (.ifCond .ne 14, 3) := by decide +kernel
theorem dX11_with_12 : decode cX11_with 12 = .ok (.new 198, 3) := by decide +kernel
theorem dX11_with_15 : decode cX11_with 15 = .ok (.dup, 1) := by decide +kernel
theorem dX11_with_16 : decode cX11_with 16 = .ok (.ldc_w 337, 3) := by decide +kernel
theorem dX11_with_19 : decode cX11_with 19 = .ok (.invokespecial 202, 3) := by decide +kernel
theorem dX11_with_22 : decode cX11_with 22 = .ok (.athrow, 1) := by decide +kernel
theorem dX11_with_23 : decode cX11_with 23 = .ok (.aload_n 0, 1) := by decide +kernel
theorem dX11_with_24 : decode cX11_with 24 = .ok (.iload_n 3, 1) := by decide +kernel
theorem dX11_with_25 : decode cX11_with 25 = .ok (.invokevirtual 258, 3) := by decide +kernel
theorem dX11_with_28 : decode cX11_with 28 = .ok (.iconst (-1), 1) := by decide +kernel
theorem dX11_with_29 : decode cX11_with 29 = .ok (.istore 4, 2) := by decide +kernel
theorem dX11_with_31 : decode cX11_with 31 = .ok (.iconst 0, 1) := by decide +kernel
theorem dX11_with_32 : decode cX11_with 32 = .ok (.istore 5, 2) := by decide +kernel
theorem dX11_with_34 : decode cX11_with 34 = .ok (.iload 5, 2) := by decide +kernel
theorem dX11_with_36 : decode cX11_with 36 = .ok (.aload_n 0, 1) := by decide +kernel
theorem dX11_with_37 : decode cX11_with 37 = .ok (.getfield 10, 3) := by decide +kernel
theorem dX11_with_40 : decode cX11_with 40 = .ok (.getfield 209, 3) := by decide +kernel
theorem dX11_with_43 : decode cX11_with 43 = .ok (.if_icmp .ge 83, 3) := by decide +kernel
theorem dX11_with_46 : decode cX11_with 46 = .ok (.aload_n 0, 1) := by decide +kernel
theorem dX11_with_47 : decode cX11_with 47 = .ok (.getfield 10, 3) := by decide +kernel
theorem dX11_with_50 : decode cX11_with 50 = .ok (.iload 5, 2) := by decide +kernel
theorem dX11_with_52 : decode cX11_with 52 = .ok (.invokevirtual 218, 3) := by decide +kernel
theorem dX11_with_55 : decode cX11_with 55 = .ok (.astore 6, 2) := by decide +kernel
theorem dX11_with_57 : decode cX11_with 57 = .ok (.aload 6, 2) := by decide +kernel
theorem dX11_with_59 : decode cX11_with 59 = .ok (.iload_n 1, 1) := by decide +kernel
theorem dX11_with_60 : decode cX11_with 60 = .ok (.invokevirtual 339, 3) := by decide +kernel
theorem dX11_with_63 : decode cX11_with 63 = .ok (.ifCond .eq 25, 3) := by decide +kernel
theorem dX11_with_66 : decode cX11_with 66 = .ok (.aload 6, 2) := by decide +kernel
theorem dX11_with_68 : decode cX11_with 68 = .ok (.iload_n 3, 1) := by decide +kernel
theorem dX11_with_69 : decode cX11_with 69 = .ok (.invokevirtual 261, 3) := by decide +kernel
theorem dX11_with_72 : decode cX11_with 72 = .ok (.ifCond .eq 16, 3) := by decide +kernel
theorem dX11_with_75 : decode cX11_with 75 = .ok (.aload 6, 2) := by decide +kernel
theorem dX11_with_77 : decode cX11_with 77 = .ok (.getfield 285, 3) := by decide +kernel
theorem dX11_with_80 : decode cX11_with 80 = .ok (.iload_n 2, 1) := by decide +kernel
theorem dX11_with_81 : decode cX11_with 81 = .ok (.if_icmp .gt 7, 3) := by decide +kernel
theorem dX11_with_84 : decode cX11_with 84 = .ok (.iconst 1, 1) := by decide +kernel
theorem dX11_with_85 : decode cX11_with 85 = .ok (.goto 4, 3) := by decide +kernel
theorem dX11_with_88 : decode cX11_with 88 = .ok (.iconst 0, 1) := by decide +kernel
theorem dX11_with_89 : decode cX11_with 89 = .ok (.istore 7, 2) := by decide +kernel
theorem dX11_with_91 : decode cX11_with 91 = .ok (.iload 7, 2) := by decide +kernel
theorem dX11_with_93 : decode cX11_with 93 = .ok (.ifCond .eq 27, 3) := by decide +kernel
theorem dX11_with_96 : decode cX11_with 96 = .ok (.aload 6, 2) := by decide +kernel
theorem dX11_with_98 : decode cX11_with 98 = .ok (.getfield 285, 3) := by decide +kernel
theorem dX11_with_101 : decode cX11_with 101 = .ok (.aload_n 0, 1) := by decide +kernel
theorem dX11_with_102 : decode cX11_with 102 = .ok (.getfield 10, 3) := by decide +kernel
theorem dX11_with_105 : decode cX11_with 105 = .ok (.iload 4, 2) := by decide +kernel
theorem dX11_with_107 : decode cX11_with 107 = .ok (.invokevirtual 218, 3) := by decide +kernel
theorem dX11_with_110 : decode cX11_with 110 = .ok (.getfield 285, 3) := by decide +kernel
theorem dX11_with_113 : decode cX11_with 113 = .ok (.if_icmp .lt 7, 3) := by decide +kernel
theorem dX11_with_116 : decode cX11_with 116 = .ok (.iload 5, 2) := by decide +kernel
theorem dX11_with_118 : decode cX11_with 118 = .ok (.istore 4, 2) := by decide +kernel
theorem dX11_with_120 : decode cX11_with 120 = .ok (.iinc 5 1, 3) := by decide +kernel
theorem dX11_with_123 : decode cX11_with 123 = .ok (.goto (-89), 3) := by decide +kernel
theorem dX11_with_126 : decode cX11_with 126 = .ok (.aload_n 0, 1) := by decide +kernel
theorem dX11_with_127 : decode cX11_with 127 = .ok (.getfield 10, 3) := by decide +kernel
theorem dX11_with_130 : decode cX11_with 130 = .ok (.iload 4, 2) := by decide +kernel
theorem dX11_with_132 : decode cX11_with 132 = .ok (.invokevirtual 218, 3) := by decide +kernel
theorem dX11_with_135 : decode cX11_with 135 = .ok (.getfield 342, 3) := by decide +kernel
theorem dX11_with_138 : decode cX11_with 138 = .ok (.ireturn, 1) := by decide +kernel
theorem dX11_hidden_0 : decode cX11_hidden 0 = .ok (.aload_n 0, 1) := by decide +kernel
theorem dX11_hidden_1 : decode cX11_hidden 1 = .ok (.iload_n 1, 1) := by decide +kernel
theorem dX11_hidden_2 : decode cX11_hidden 2 = .ok (.invokevirtual 122, 3) := by decide +kernel
theorem dX11_hidden_5 : decode cX11_hidden 5 = .ok (.aload_n 0, 1) := by decide +kernel
theorem dX11_hidden_6 : decode cX11_hidden 6 = .ok (.iload_n 3, 1) := by decide +kernel
theorem dX11_hidden_7 : decode cX11_hidden 7 = .ok (.iconst 3, 1) := by decide +kernel
theorem dX11_hidden_8 : decode cX11_hidden 8 = .ok (.invokevirtual 255, 3) := by decide +kernel
theorem dX11_hidden_11 : decode cX11_hidden 11 = .ok (.aload_n 0, 1) := by decide +kernel
theorem dX11_hidden_12 : decode cX11_hidden 12 = .ok (.iload 4, 2) := by decide +kernel
theorem dX11_hidden_14 : decode cX11_hidden 14 = .ok (.invokevirtual 258, 3) := by decide +kernel
theorem dX11_hidden_17 : decode cX11_hidden 17 = .ok (.iconst 0, 1) := by decide +kernel
theorem dX11_hidden_18 : decode cX11_hidden 18 = .ok (.istore 5, 2) := by decide +kernel
theorem dX11_hidden_20 : decode cX11_hidden 20 = .ok (.aload_n 0, 1) := by decide +kernel
theorem dX11_hidden_21 : decode cX11_hidden 21 = .ok (.getfield 10, 3) := by decide +kernel
theorem dX11_hidden_24 : decode cX11_hidden 24 = .ok (.iload_n 1, 1) := by decide +kernel
theorem dX11_hidden_25 : decode cX11_hidden 25 = .ok (.iconst (-1), 1) := by decide +kernel
theorem dX11_hidden_26 : decode cX11_hidden 26 = .ok (.iload 4, 2) := by decide +kernel
theorem dX11_hidden_28 : decode cX11_hidden 28 = .ok (.invokevirtual 345, 3) := by decide +kernel
theorem dX11_hidden_31 : decode cX11_hidden 31 = .ok (.istore 6, 2) := by decide +kernel
theorem dX11_hidden_33 : decode cX11_hidden 33 = .ok (.iconst 0, 1) := by decide +kernel
theorem dX11_hidden_34 : decode cX11_hidden 34 = .ok (.istore 7, 2) := by decide +kernel
theorem dX11_hidden_36 : decode cX11_hidden 36 = .ok (.iload 7, 2) := by decide +kernel
theorem dX11_hidden_38 : decode cX11_hidden 38 = .ok (.sipush 200, 3) := by decide +kernel
theorem dX11_hidden_41 : decode cX11_hidden 41 = .ok (.if_icmp .ge 98, 3) := by decide +kernel
theorem dX11_hidden_44 : decode cX11_hidden 44 = .ok (.iload 6, 2) := by decide +kernel
theorem dX11_hidden_46 : decode cX11_hidden 46 = .ok (.iconst (-1), 1) := by decide +kernel
theorem dX11_hidden_47 : decode cX11_hidden 47 = .ok (.if_icmp .eq 92, 3) := by decide +kernel
theorem dX11_hidden_50 : decode cX11_hidden 50 = .ok (.aload_n 0, 1) := by decide +kernel
theorem dX11_hidden_51 : decode cX11_hidden 51 = .ok (.getfield 10, 3) := by decide +kernel
theorem dX11_hidden_54 : decode cX11_hidden 54 = .ok (.iload_n 1, 1) := by decide +kernel
theorem dX11_hidden_55 : decode cX11_hidden 55 = .ok (.iload 6, 2) := by decide +kernel
theorem dX11_hidden_57 : decode cX11_hidden 57 = .ok (.iload 4, 2) := by decide +kernel
theorem dX11_hidden_59 : decode cX11_hidden 59 = .ok (.invokevirtual 345, 3) := by decide +kernel
theorem dX11_hidden_62 : decode cX11_hidden 62 = .ok (.istore 8, 2) := by decide +kernel
theorem dX11_hidden_64 : decode cX11_hidden 64 = .ok (.iload 8, 2) := by decide +kernel
theorem dX11_hidden_66 : decode cX11_hidden 66 = .ok (.iconst (-1), 1) := by decide +kernel
theorem dX11_hidden_67 : decode cX11_hidden 67 = .ok (.if_icmp .eq 62, 3) := by decide +kernel
theorem dX11_hidden_70 : decode cX11_hidden 70 = .ok (.aload_n 0, 1) := by decide +kernel
theorem dX11_hidden_71 : decode cX11_hidden 71 = .ok (.getfield 10, 3) := by decide +kernel
theorem dX11_hidden_74 : decode cX11_hidden 74 = .ok (.iload 8, 2) := by decide +kernel
theorem dX11_hidden_76 : decode cX11_hidden 76 = .ok (.invokevirtual 218, 3) := by decide +kernel
theorem dX11_hidden_79 : decode cX11_hidden 79 = .ok (.getfield 348, 3) := by decide +kernel
theorem dX11_hidden_82 : decode cX11_hidden 82 = .ok (.aload_n 0, 1) := by decide +kernel
theorem dX11_hidden_83 : decode cX11_hidden 83 = .ok (.getfield 10, 3) := by decide +kernel
theorem dX11_hidden_86 : decode cX11_hidden 86 = .ok (.iload 6, 2) := by decide +kernel
theorem dX11_hidden_88 : decode cX11_hidden 88 = .ok (.invokevirtual 218, 3) := by decide +kernel
theorem dX11_hidden_91 : decode cX11_hidden 91 = .ok (.getfield 342, 3) := by decide +kernel
theorem dX11_hidden_94 : decode cX11_hidden 94 = .ok (.if_icmp .eq 35, 3) := by decide +kernel
theorem dX11_hidden_97 : decode cX11_hidden 97 = .ok (.iload 5, 2) := by decide +kernel
theorem dX11_hidden_99 : decode cX11_hidden 99 = .ok (.iload_n 2, 1) := by decide +kernel
theorem dX11_hidden_100 : decode cX11_hidden 100 = .ok (.if_icmp .ne 26, 3) := by decide +kernel
theorem dX11_hidden_103 : decode cX11_hidden 103 = .ok (.aload_n 0, 1) := by decide +kernel
theorem dX11_hidden_104 : decode cX11_hidden 104 = .ok (.getfield 10, 3) := by decide +kernel
theorem dX11_hidden_107 : decode cX11_hidden 107 = .ok (.iload 6, 2) := by decide +kernel
theorem dX11_hidden_109 : decode cX11_hidden 109 = .ok (.invokevirtual 218, 3) := by decide +kernel
theorem dX11_hidden_112 : decode cX11_hidden 112 = .ok (.aload_n 0, 1) := by decide +kernel
theorem dX11_hidden_113 : decode cX11_hidden 113 = .ok (.getfield 10, 3) := by decide +kernel
theorem dX11_hidden_116 : decode cX11_hidden 116 = .ok (.iload 8, 2) := by decide +kernel
theorem dX11_hidden_118 : decode cX11_hidden 118 = .ok (.invokevirtual 218, 3) := by decide +kernel
theorem dX11_hidden_121 : decode cX11_hidden 121 = .ok (.iload_n 3, 1) := by decide +kernel
theorem dX11_hidden_122 : decode cX11_hidden 122 = .ok (.invokestatic 351, 3) := by decide +kernel
theorem dX11_hidden_125 : decode cX11_hidden 125 = .ok (.ireturn, 1) := by decide +kernel
theorem dX11_hidden_126 : decode cX11_hidden 126 = .ok (.iinc 5 1, 3) := by decide +kernel
theorem dX11_hidden_129 : decode cX11_hidden 129 = .ok (.iload 8, 2) := by decide +kernel
theorem dX11_hidden_131 : decode cX11_hidden 131 = .ok (.istore 6, 2) := by decide +kernel
theorem dX11_hidden_133 : decode cX11_hidden 133 = .ok (.iinc 7 1, 3) := by decide +kernel
theorem dX11_hidden_136 : decode cX11_hidden 136 = .ok (.goto (-100), 3) := by decide +kernel
theorem dX11_hidden_139 : decode cX11_hidden 139 = .ok (.iload_n 2, 1) := by decide +kernel
theorem dX11_hidden_140 : decode cX11_hidden 140 = .ok (.iconst (-1), 1) := by decide +kernel
theorem dX11_hidden_141 : decode cX11_hidden 141 = .ok (.if_icmp .eq 14, 3) := by decide +kernel
theorem dX11_hidden_144 : decode cX11_hidden 144 = .ok (.new 198, 3) := by decide +kernel
theorem dX11_hidden_147 : decode cX11_hidden 147 = .ok (.dup, 1) := by decide +kernel
theorem dX11_hidden_148 : decode cX11_hidden 148 = .ok (.ldc_w 355, 3) := by decide +kernel
theorem dX11_hidden_151 : decode cX11_hidden 151 = .ok (.invokespecial 202, 3) := by decide +kernel
theorem dX11_hidden_154 : decode cX11_hidden 154 = .ok (.athrow, 1) := by decide +kernel
theorem dX11_hidden_155 : decode cX11_hidden 155 = .ok (.iload 5, 2) := by decide +kernel
theorem dX11_hidden_157 : decode cX11_hidden 157 = .ok (.ireturn, 1) := by decide +kernel
theorem dX11_attempt_0 : decode cX11_attempt 0 = .ok (.aload_n 0, 1) := by decide +kernel
theorem dX11_attempt_1 : decode cX11_attempt 1 = .ok (.iload_n 1, 1) := by decide +kernel
theorem dX11_attempt_2 : decode cX11_attempt 2 = .ok (.iload_n 2, 1) := by decide +kernel
theorem dX11_attempt_3 : decode cX11_attempt 3 = .ok (.iload_n 3, 1) := by decide +kernel
theorem dX11_attempt_4 : decode cX11_attempt 4 = .ok (.iconst 1, 1) := by decide +kernel
theorem dX11_attempt_5 : decode cX11_attempt 5 = .ok (.invokevirtual 244, 3) := by decide +kernel
theorem dX11_attempt_8 : decode cX11_attempt 8 = .ok (.istore 4, 2) := by decide +kernel
theorem dX11_attempt_10 : decode cX11_attempt 10 = .ok (.iload 4, 2) := by decide +kernel
theorem dX11_attempt_12 : decode cX11_attempt 12 = .ok (.ifCond .ne 7, 3) := by decide +kernel
theorem dX11_attempt_15 : decode cX11_attempt 15 = .ok (.aload_n 0, 1) := by decide +kernel
theorem dX11_attempt_16 : decode cX11_attempt 16 = .ok (.invokevirtual 357, 3) := by decide +kernel
theorem dX11_attempt_19 : decode cX11_attempt 19 = .ok (.iload 4, 2) := by decide +kernel
theorem dX11_attempt_21 : decode cX11_attempt 21 = .ok (.ireturn, 1) := by decide +kernel
theorem dX11_more_0 : decode cX11_more 0 = .ok (.aload_n 0, 1) := by decide +kernel
theorem dX11_more_1 : decode cX11_more 1 = .ok (.iload_n 1, 1) := by decide +kernel
theorem dX11_more_2 : decode cX11_more 2 = .ok (.invokevirtual 103, 3) := by decide +kernel
theorem dX11_more_5 : decode cX11_more 5 = .ok (.aload_n 0, 1) := by decide +kernel
theorem dX11_more_6 : decode cX11_more 6 = .ok (.getfield 59, 3) := by decide +kernel
theorem dX11_more_9 : decode cX11_more 9 = .ok (.iload_n 1, 1) := by decide +kernel
theorem dX11_more_10 : decode cX11_more 10 = .ok (.laload, 1) := by decide +kernel
theorem dX11_more_11 : decode cX11_more 11 = .ok (.lreturn, 1) := by decide +kernel
theorem dX11_count_0 : decode cX11_count 0 = .ok (.aload_n 0, 1) := by decide +kernel
theorem dX11_count_1 : decode cX11_count 1 = .ok (.iload_n 1, 1) := by decide +kernel
theorem dX11_count_2 : decode cX11_count 2 = .ok (.bipush 8, 2) := by decide +kernel
theorem dX11_count_4 : decode cX11_count 4 = .ok (.invokevirtual 255, 3) := by decide +kernel
theorem dX11_count_7 : decode cX11_count 7 = .ok (.iload_n 1, 1) := by decide +kernel
theorem dX11_count_8 : decode cX11_count 8 = .ok (.tableswitch 112 0 7 #[48, 56, 64, 72, 80, 88, 96, 104], 48) := by decide +kernel
theorem dX11_count_56 : decode cX11_count 56 = .ok (.aload_n 0, 1) := by decide +kernel
theorem dX11_count_57 : decode cX11_count 57 = .ok (.getfield 10, 3) := by decide +kernel
theorem dX11_count_60 : decode cX11_count 60 = .ok (.getfield 148, 3) := by decide +kernel
theorem dX11_count_63 : decode cX11_count 63 = .ok (.ireturn, 1) := by decide +kernel
theorem dX11_count_64 : decode cX11_count 64 = .ok (.aload_n 0, 1) := by decide +kernel
theorem dX11_count_65 : decode cX11_count 65 = .ok (.getfield 10, 3) := by decide +kernel
theorem dX11_count_68 : decode cX11_count 68 = .ok (.getfield 63, 3) := by decide +kernel
theorem dX11_count_71 : decode cX11_count 71 = .ok (.ireturn, 1) := by decide +kernel
theorem dX11_count_72 : decode cX11_count 72 = .ok (.aload_n 0, 1) := by decide +kernel
theorem dX11_count_73 : decode cX11_count 73 = .ok (.getfield 10, 3) := by decide +kernel
theorem dX11_count_76 : decode cX11_count 76 = .ok (.getfield 91, 3) := by decide +kernel
theorem dX11_count_79 : decode cX11_count 79 = .ok (.ireturn, 1) := by decide +kernel
theorem dX11_count_80 : decode cX11_count 80 = .ok (.aload_n 0, 1) := by decide +kernel
theorem dX11_count_81 : decode cX11_count 81 = .ok (.getfield 10, 3) := by decide +kernel
theorem dX11_count_84 : decode cX11_count 84 = .ok (.getfield 107, 3) := by decide +kernel
theorem dX11_count_87 : decode cX11_count 87 = .ok (.ireturn, 1) := by decide +kernel
theorem dX11_count_88 : decode cX11_count 88 = .ok (.aload_n 0, 1) := by decide +kernel
theorem dX11_count_89 : decode cX11_count 89 = .ok (.getfield 10, 3) := by decide +kernel
theorem dX11_count_92 : decode cX11_count 92 = .ok (.getfield 138, 3) := by decide +kernel
theorem dX11_count_95 : decode cX11_count 95 = .ok (.ireturn, 1) := by decide +kernel
theorem dX11_count_96 : decode cX11_count 96 = .ok (.aload_n 0, 1) := by decide +kernel
theorem dX11_count_97 : decode cX11_count 97 = .ok (.getfield 10, 3) := by decide +kernel
theorem dX11_count_100 : decode cX11_count 100 = .ok (.getfield 209, 3) := by decide +kernel
theorem dX11_count_103 : decode cX11_count 103 = .ok (.ireturn, 1) := by decide +kernel
theorem dX11_count_104 : decode cX11_count 104 = .ok (.aload_n 0, 1) := by decide +kernel
theorem dX11_count_105 : decode cX11_count 105 = .ok (.getfield 10, 3) := by decide +kernel
theorem dX11_count_108 : decode cX11_count 108 = .ok (.getfield 206, 3) := by decide +kernel
theorem dX11_count_111 : decode cX11_count 111 = .ok (.ireturn, 1) := by decide +kernel
theorem dX11_count_112 : decode cX11_count 112 = .ok (.aload_n 0, 1) := by decide +kernel
theorem dX11_count_113 : decode cX11_count 113 = .ok (.getfield 10, 3) := by decide +kernel
theorem dX11_count_116 : decode cX11_count 116 = .ok (.getfield 231, 3) := by decide +kernel
theorem dX11_count_119 : decode cX11_count 119 = .ok (.ireturn, 1) := by decide +kernel
theorem dX11_count_120 : decode cX11_count 120 = .ok (.aload_n 0, 1) := by decide +kernel
theorem dX11_count_121 : decode cX11_count 121 = .ok (.getfield 45, 3) := by decide +kernel
theorem dX11_count_124 : decode cX11_count 124 = .ok (.ireturn, 1) := by decide +kernel
theorem dX11_needLand_0 : decode cX11_needLand 0 = .ok (.iload_n 1, 1) := by decide +kernel
theorem dX11_needLand_1 : decode cX11_needLand 1 = .ok (.iconst 0, 1) := by decide +kernel
theorem dX11_needLand_2 : decode cX11_needLand 2 = .ok (.aload_n 0, 1) := by decide +kernel
theorem dX11_needLand_3 : decode cX11_needLand 3 = .ok (.getfield 10, 3) := by decide +kernel
theorem dX11_needLand_6 : decode cX11_needLand 6 = .ok (.getfield 63, 3) := by decide +kernel
theorem dX11_needLand_9 : decode cX11_needLand 9 = .ok (.iconst 1, 1) := by decide +kernel
theorem dX11_needLand_10 : decode cX11_needLand 10 = .ok (.isub, 1) := by decide +kernel
theorem dX11_needLand_11 : decode cX11_needLand 11 = .ok (.invokestatic 78, 3) := by decide +kernel
theorem dX11_needLand_14 : decode cX11_needLand 14 = .ok (.ifCond .ne 14, 3) := by decide +kernel
theorem dX11_needLand_17 : decode cX11_needLand 17 = .ok (.new 198, 3) := by decide +kernel
theorem dX11_needLand_20 : decode cX11_needLand 20 = .ok (.dup, 1) := by decide +kernel
theorem dX11_needLand_21 : decode cX11_needLand 21 = .ok (.ldc_w 360, 3) := by decide +kernel
theorem dX11_needLand_24 : decode cX11_needLand 24 = .ok (.invokespecial 202, 3) := by decide +kernel
theorem dX11_needLand_27 : decode cX11_needLand 27 = .ok (.athrow, 1) := by decide +kernel
theorem dX11_needLand_28 : decode cX11_needLand 28 = .ok (.return_, 1) := by decide +kernel
theorem dX11_needPerson_0 : decode cX11_needPerson 0 = .ok (.iload_n 1, 1) := by decide +kernel
theorem dX11_needPerson_1 : decode cX11_needPerson 1 = .ok (.iconst 0, 1) := by decide +kernel
theorem dX11_needPerson_2 : decode cX11_needPerson 2 = .ok (.aload_n 0, 1) := by decide +kernel
theorem dX11_needPerson_3 : decode cX11_needPerson 3 = .ok (.getfield 10, 3) := by decide +kernel
theorem dX11_needPerson_6 : decode cX11_needPerson 6 = .ok (.getfield 91, 3) := by decide +kernel
theorem dX11_needPerson_9 : decode cX11_needPerson 9 = .ok (.iconst 1, 1) := by decide +kernel
theorem dX11_needPerson_10 : decode cX11_needPerson 10 = .ok (.isub, 1) := by decide +kernel
theorem dX11_needPerson_11 : decode cX11_needPerson 11 = .ok (.invokestatic 78, 3) := by decide +kernel
theorem dX11_needPerson_14 : decode cX11_needPerson 14 = .ok (.ifCond .ne 14, 3) := by decide +kernel
theorem dX11_needPerson_17 : decode cX11_needPerson 17 = .ok (.new 198, 3) := by decide +kernel
theorem dX11_needPerson_20 : decode cX11_needPerson 20 = .ok (.dup, 1) := by decide +kernel
theorem dX11_needPerson_21 : decode cX11_needPerson 21 = .ok (.ldc_w 362, 3) := by decide +kernel
theorem dX11_needPerson_24 : decode cX11_needPerson 24 = .ok (.invokespecial 202, 3) := by decide +kernel
theorem dX11_needPerson_27 : decode cX11_needPerson 27 = .ok (.athrow, 1) := by decide +kernel
theorem dX11_needPerson_28 : decode cX11_needPerson 28 = .ok (.return_, 1) := by decide +kernel
theorem dX11_needWork_0 : decode cX11_needWork 0 = .ok (.iload_n 1, 1) := by decide +kernel
theorem dX11_needWork_1 : decode cX11_needWork 1 = .ok (.iconst 0, 1) := by decide +kernel
theorem dX11_needWork_2 : decode cX11_needWork 2 = .ok (.aload_n 0, 1) := by decide +kernel
theorem dX11_needWork_3 : decode cX11_needWork 3 = .ok (.getfield 10, 3) := by decide +kernel
theorem dX11_needWork_6 : decode cX11_needWork 6 = .ok (.getfield 107, 3) := by decide +kernel
theorem dX11_needWork_9 : decode cX11_needWork 9 = .ok (.iconst 1, 1) := by decide +kernel
theorem dX11_needWork_10 : decode cX11_needWork 10 = .ok (.isub, 1) := by decide +kernel
theorem dX11_needWork_11 : decode cX11_needWork 11 = .ok (.invokestatic 78, 3) := by decide +kernel
theorem dX11_needWork_14 : decode cX11_needWork 14 = .ok (.ifCond .ne 14, 3) := by decide +kernel
theorem dX11_needWork_17 : decode cX11_needWork 17 = .ok (.new 198, 3) := by decide +kernel
theorem dX11_needWork_20 : decode cX11_needWork 20 = .ok (.dup, 1) := by decide +kernel
theorem dX11_needWork_21 : decode cX11_needWork 21 = .ok (.ldc_w 364, 3) := by decide +kernel
theorem dX11_needWork_24 : decode cX11_needWork 24 = .ok (.invokespecial 202, 3) := by decide +kernel
theorem dX11_needWork_27 : decode cX11_needWork 27 = .ok (.athrow, 1) := by decide +kernel
theorem dX11_needWork_28 : decode cX11_needWork 28 = .ok (.return_, 1) := by decide +kernel
theorem dX11_needSociety_0 : decode cX11_needSociety 0 = .ok (.iload_n 1, 1) := by decide +kernel
theorem dX11_needSociety_1 : decode cX11_needSociety 1 = .ok (.iconst 0, 1) := by decide +kernel
theorem dX11_needSociety_2 : decode cX11_needSociety 2 = .ok (.aload_n 0, 1) := by decide +kernel
theorem dX11_needSociety_3 : decode cX11_needSociety 3 = .ok (.getfield 10, 3) := by decide +kernel
theorem dX11_needSociety_6 : decode cX11_needSociety 6 = .ok (.getfield 138, 3) := by decide +kernel
theorem dX11_needSociety_9 : decode cX11_needSociety 9 = .ok (.iconst 1, 1) := by decide +kernel
theorem dX11_needSociety_10 : decode cX11_needSociety 10 = .ok (.isub, 1) := by decide +kernel
theorem dX11_needSociety_11 : decode cX11_needSociety 11 = .ok (.invokestatic 78, 3) := by decide +kernel
theorem dX11_needSociety_14 : decode cX11_needSociety 14 = .ok (.ifCond .ne 14, 3) := by decide +kernel
theorem dX11_needSociety_17 : decode cX11_needSociety 17 = .ok (.new 198, 3) := by decide +kernel
theorem dX11_needSociety_20 : decode cX11_needSociety 20 = .ok (.dup, 1) := by decide +kernel
theorem dX11_needSociety_21 : decode cX11_needSociety 21 = .ok (.ldc_w 366, 3) := by decide +kernel
theorem dX11_needSociety_24 : decode cX11_needSociety 24 = .ok (.invokespecial 202, 3) := by decide +kernel
theorem dX11_needSociety_27 : decode cX11_needSociety 27 = .ok (.athrow, 1) := by decide +kernel
theorem dX11_needSociety_28 : decode cX11_needSociety 28 = .ok (.return_, 1) := by decide +kernel
theorem dX11_needSale_0 : decode cX11_needSale 0 = .ok (.aload_n 0, 1) := by decide +kernel
theorem dX11_needSale_1 : decode cX11_needSale 1 = .ok (.getfield 10, 3) := by decide +kernel
theorem dX11_needSale_4 : decode cX11_needSale 4 = .ok (.iload_n 1, 1) := by decide +kernel
theorem dX11_needSale_5 : decode cX11_needSale 5 = .ok (.invokevirtual 218, 3) := by decide +kernel
theorem dX11_needSale_8 : decode cX11_needSale 8 = .ok (.getfield 368, 3) := by decide +kernel
theorem dX11_needSale_11 : decode cX11_needSale 11 = .ok (.iconst 2, 1) := by decide +kernel
theorem dX11_needSale_12 : decode cX11_needSale 12 = .ok (.if_icmp .eq 14, 3) := by decide +kernel
theorem dX11_needSale_15 : decode cX11_needSale 15 = .ok (.new 198, 3) := by decide +kernel
theorem dX11_needSale_18 : decode cX11_needSale 18 = .ok (.dup, 1) := by decide +kernel
theorem dX11_needSale_19 : decode cX11_needSale 19 = .ok (.ldc_w 371, 3) := by decide +kernel
theorem dX11_needSale_22 : decode cX11_needSale 22 = .ok (.invokespecial 202, 3) := by decide +kernel
theorem dX11_needSale_25 : decode cX11_needSale 25 = .ok (.athrow, 1) := by decide +kernel
theorem dX11_needSale_26 : decode cX11_needSale 26 = .ok (.return_, 1) := by decide +kernel
theorem dX11_needWhat_0 : decode cX11_needWhat 0 = .ok (.iload_n 1, 1) := by decide +kernel
theorem dX11_needWhat_1 : decode cX11_needWhat 1 = .ok (.iconst 0, 1) := by decide +kernel
theorem dX11_needWhat_2 : decode cX11_needWhat 2 = .ok (.iload_n 2, 1) := by decide +kernel
theorem dX11_needWhat_3 : decode cX11_needWhat 3 = .ok (.invokestatic 78, 3) := by decide +kernel
theorem dX11_needWhat_6 : decode cX11_needWhat 6 = .ok (.ifCond .ne 14, 3) := by decide +kernel
theorem dX11_needWhat_9 : decode cX11_needWhat 9 = .ok (.new 198, 3) := by decide +kernel
theorem dX11_needWhat_12 : decode cX11_needWhat 12 = .ok (.dup, 1) := by decide +kernel
theorem dX11_needWhat_13 : decode cX11_needWhat 13 = .ok (.ldc_w 373, 3) := by decide +kernel
theorem dX11_needWhat_16 : decode cX11_needWhat 16 = .ok (.invokespecial 202, 3) := by decide +kernel
theorem dX11_needWhat_19 : decode cX11_needWhat 19 = .ok (.athrow, 1) := by decide +kernel
theorem dX11_needWhat_20 : decode cX11_needWhat 20 = .ok (.return_, 1) := by decide +kernel
theorem dX11_needYear_0 : decode cX11_needYear 0 = .ok (.iload_n 1, 1) := by decide +kernel
theorem dX11_needYear_1 : decode cX11_needYear 1 = .ok (.iconst 0, 1) := by decide +kernel
theorem dX11_needYear_2 : decode cX11_needYear 2 = .ok (.bipush 99, 2) := by decide +kernel
theorem dX11_needYear_4 : decode cX11_needYear 4 = .ok (.invokestatic 78, 3) := by decide +kernel
theorem dX11_needYear_7 : decode cX11_needYear 7 = .ok (.ifCond .ne 14, 3) := by decide +kernel
theorem dX11_needYear_10 : decode cX11_needYear 10 = .ok (.new 198, 3) := by decide +kernel
theorem dX11_needYear_13 : decode cX11_needYear 13 = .ok (.dup, 1) := by decide +kernel
theorem dX11_needYear_14 : decode cX11_needYear 14 = .ok (.ldc_w 375, 3) := by decide +kernel
theorem dX11_needYear_17 : decode cX11_needYear 17 = .ok (.invokespecial 202, 3) := by decide +kernel
theorem dX11_needYear_20 : decode cX11_needYear 20 = .ok (.athrow, 1) := by decide +kernel
theorem dX11_needYear_21 : decode cX11_needYear 21 = .ok (.return_, 1) := by decide +kernel
theorem dX11_needEvening_0 : decode cX11_needEvening 0 = .ok (.iload_n 1, 1) := by decide +kernel
theorem dX11_needEvening_1 : decode cX11_needEvening 1 = .ok (.iconst 0, 1) := by decide +kernel
theorem dX11_needEvening_2 : decode cX11_needEvening 2 = .ok (.aload_n 0, 1) := by decide +kernel
theorem dX11_needEvening_3 : decode cX11_needEvening 3 = .ok (.getfield 10, 3) := by decide +kernel
theorem dX11_needEvening_6 : decode cX11_needEvening 6 = .ok (.getfield 148, 3) := by decide +kernel
theorem dX11_needEvening_9 : decode cX11_needEvening 9 = .ok (.invokestatic 78, 3) := by decide +kernel
theorem dX11_needEvening_12 : decode cX11_needEvening 12 = .ok (.ifCond .ne 14, 3) := by decide +kernel
theorem dX11_needEvening_15 : decode cX11_needEvening 15 = .ok (.new 151, 3) := by decide +kernel
theorem dX11_needEvening_18 : decode cX11_needEvening 18 = .ok (.dup, 1) := by decide +kernel
theorem dX11_needEvening_19 : decode cX11_needEvening 19 = .ok (.ldc_w 377, 3) := by decide +kernel
theorem dX11_needEvening_22 : decode cX11_needEvening 22 = .ok (.invokespecial 155, 3) := by decide +kernel
theorem dX11_needEvening_25 : decode cX11_needEvening 25 = .ok (.athrow, 1) := by decide +kernel
theorem dX11_needEvening_26 : decode cX11_needEvening 26 = .ok (.return_, 1) := by decide +kernel
theorem dX11_isWithin_0 : decode cX11_isWithin 0 = .ok (.iload_n 0, 1) := by decide +kernel
theorem dX11_isWithin_1 : decode cX11_isWithin 1 = .ok (.iload_n 1, 1) := by decide +kernel
theorem dX11_isWithin_2 : decode cX11_isWithin 2 = .ok (.if_icmp .lt 12, 3) := by decide +kernel
theorem dX11_isWithin_5 : decode cX11_isWithin 5 = .ok (.iload_n 0, 1) := by decide +kernel
theorem dX11_isWithin_6 : decode cX11_isWithin 6 = .ok (.iload_n 2, 1) := by decide +kernel
theorem dX11_isWithin_7 : decode cX11_isWithin 7 = .ok (.if_icmp .gt 7, 3) := by decide +kernel
theorem dX11_isWithin_10 : decode cX11_isWithin 10 = .ok (.iconst 1, 1) := by decide +kernel
theorem dX11_isWithin_11 : decode cX11_isWithin 11 = .ok (.goto 4, 3) := by decide +kernel
theorem dX11_isWithin_14 : decode cX11_isWithin 14 = .ok (.iconst 0, 1) := by decide +kernel
theorem dX11_isWithin_15 : decode cX11_isWithin 15 = .ok (.ireturn, 1) := by decide +kernel
theorem dX11_isDay_0 : decode cX11_isDay 0 = .ok (.iload_n 0, 1) := by decide +kernel
theorem dX11_isDay_1 : decode cX11_isDay 1 = .ok (.iconst 0, 1) := by decide +kernel
theorem dX11_isDay_2 : decode cX11_isDay 2 = .ok (.ldc_w 379, 3) := by decide +kernel
theorem dX11_isDay_5 : decode cX11_isDay 5 = .ok (.invokestatic 78, 3) := by decide +kernel
theorem dX11_isDay_8 : decode cX11_isDay 8 = .ok (.ireturn, 1) := by decide +kernel
theorem dX11_twelfths_0 : decode cX11_twelfths 0 = .ok (.iload_n 1, 1) := by decide +kernel
theorem dX11_twelfths_1 : decode cX11_twelfths 1 = .ok (.iconst 1, 1) := by decide +kernel
theorem dX11_twelfths_2 : decode cX11_twelfths 2 = .ok (.if_icmp .ge 7, 3) := by decide +kernel
theorem dX11_twelfths_5 : decode cX11_twelfths 5 = .ok (.iconst 0, 1) := by decide +kernel
theorem dX11_twelfths_6 : decode cX11_twelfths 6 = .ok (.goto 10, 3) := by decide +kernel
theorem dX11_twelfths_9 : decode cX11_twelfths 9 = .ok (.sipush 27720, 3) := by decide +kernel
theorem dX11_twelfths_12 : decode cX11_twelfths 12 = .ok (.iload_n 1, 1) := by decide +kernel
theorem dX11_twelfths_13 : decode cX11_twelfths 13 = .ok (.idiv, 1) := by decide +kernel
theorem dX11_twelfths_14 : decode cX11_twelfths 14 = .ok (.iload_n 0, 1) := by decide +kernel
theorem dX11_twelfths_15 : decode cX11_twelfths 15 = .ok (.imul, 1) := by decide +kernel
theorem dX11_twelfths_16 : decode cX11_twelfths 16 = .ok (.ireturn, 1) := by decide +kernel
theorem dX11_putBytes_0 : decode cX11_putBytes 0 = .ok (.bipush 24, 2) := by decide +kernel
theorem dX11_putBytes_2 : decode cX11_putBytes 2 = .ok (.istore_n 2, 1) := by decide +kernel
theorem dX11_putBytes_3 : decode cX11_putBytes 3 = .ok (.iload_n 2, 1) := by decide +kernel
theorem dX11_putBytes_4 : decode cX11_putBytes 4 = .ok (.ifCond .lt 47, 3) := by decide +kernel
theorem dX11_putBytes_7 : decode cX11_putBytes 7 = .ok (.aload_n 0, 1) := by decide +kernel
theorem dX11_putBytes_8 : decode cX11_putBytes 8 = .ok (.getfield 45, 3) := by decide +kernel
theorem dX11_putBytes_11 : decode cX11_putBytes 11 = .ok (.aload_n 0, 1) := by decide +kernel
theorem dX11_putBytes_12 : decode cX11_putBytes 12 = .ok (.getfield 41, 3) := by decide +kernel
theorem dX11_putBytes_15 : decode cX11_putBytes 15 = .ok (.arraylength, 1) := by decide +kernel
theorem dX11_putBytes_16 : decode cX11_putBytes 16 = .ok (.if_icmp .ge 35, 3) := by decide +kernel
theorem dX11_putBytes_19 : decode cX11_putBytes 19 = .ok (.aload_n 0, 1) := by decide +kernel
theorem dX11_putBytes_20 : decode cX11_putBytes 20 = .ok (.getfield 41, 3) := by decide +kernel
theorem dX11_putBytes_23 : decode cX11_putBytes 23 = .ok (.aload_n 0, 1) := by decide +kernel
theorem dX11_putBytes_24 : decode cX11_putBytes 24 = .ok (.getfield 45, 3) := by decide +kernel
theorem dX11_putBytes_27 : decode cX11_putBytes 27 = .ok (.iload_n 1, 1) := by decide +kernel
theorem dX11_putBytes_28 : decode cX11_putBytes 28 = .ok (.iload_n 2, 1) := by decide +kernel
theorem dX11_putBytes_29 : decode cX11_putBytes 29 = .ok (.ishr, 1) := by decide +kernel
theorem dX11_putBytes_30 : decode cX11_putBytes 30 = .ok (.sipush 255, 3) := by decide +kernel
theorem dX11_putBytes_33 : decode cX11_putBytes 33 = .ok (.iand, 1) := by decide +kernel
theorem dX11_putBytes_34 : decode cX11_putBytes 34 = .ok (.iastore, 1) := by decide +kernel
theorem dX11_putBytes_35 : decode cX11_putBytes 35 = .ok (.aload_n 0, 1) := by decide +kernel
theorem dX11_putBytes_36 : decode cX11_putBytes 36 = .ok (.dup, 1) := by decide +kernel
theorem dX11_putBytes_37 : decode cX11_putBytes 37 = .ok (.getfield 45, 3) := by decide +kernel
theorem dX11_putBytes_40 : decode cX11_putBytes 40 = .ok (.iconst 1, 1) := by decide +kernel
theorem dX11_putBytes_41 : decode cX11_putBytes 41 = .ok (.iadd, 1) := by decide +kernel
theorem dX11_putBytes_42 : decode cX11_putBytes 42 = .ok (.putfield 45, 3) := by decide +kernel
theorem dX11_putBytes_45 : decode cX11_putBytes 45 = .ok (.iinc 2 (-8), 3) := by decide +kernel
theorem dX11_putBytes_48 : decode cX11_putBytes 48 = .ok (.goto (-45), 3) := by decide +kernel
theorem dX11_putBytes_51 : decode cX11_putBytes 51 = .ok (.return_, 1) := by decide +kernel
theorem dX11_readTape_0 : decode cX11_readTape 0 = .ok (.aload_n 0, 1) := by decide +kernel
theorem dX11_readTape_1 : decode cX11_readTape 1 = .ok (.iload_n 1, 1) := by decide +kernel
theorem dX11_readTape_2 : decode cX11_readTape 2 = .ok (.invokevirtual 66, 3) := by decide +kernel
theorem dX11_readTape_5 : decode cX11_readTape 5 = .ok (.iload_n 2, 1) := by decide +kernel
theorem dX11_readTape_6 : decode cX11_readTape 6 = .ok (.ifCond .lt 11, 3) := by decide +kernel
theorem dX11_readTape_9 : decode cX11_readTape 9 = .ok (.iload_n 2, 1) := by decide +kernel
theorem dX11_readTape_10 : decode cX11_readTape 10 = .ok (.aload_n 0, 1) := by decide +kernel
theorem dX11_readTape_11 : decode cX11_readTape 11 = .ok (.getfield 45, 3) := by decide +kernel
theorem dX11_readTape_14 : decode cX11_readTape 14 = .ok (.if_icmp .le 14, 3) := by decide +kernel
theorem dX11_readTape_17 : decode cX11_readTape 17 = .ok (.new 151, 3) := by decide +kernel
theorem dX11_readTape_20 : decode cX11_readTape 20 = .ok (.dup, 1) := by decide +kernel
theorem dX11_readTape_21 : decode cX11_readTape 21 = .ok (.ldc_w 380, 3) := by decide +kernel
theorem dX11_readTape_24 : decode cX11_readTape 24 = .ok (.invokespecial 155, 3) := by decide +kernel
theorem dX11_readTape_27 : decode cX11_readTape 27 = .ok (.athrow, 1) := by decide +kernel
theorem dX11_readTape_28 : decode cX11_readTape 28 = .ok (.aload_n 0, 1) := by decide +kernel
theorem dX11_readTape_29 : decode cX11_readTape 29 = .ok (.iconst 0, 1) := by decide +kernel
theorem dX11_readTape_30 : decode cX11_readTape 30 = .ok (.putfield 45, 3) := by decide +kernel
theorem dX11_readTape_33 : decode cX11_readTape 33 = .ok (.aload_n 0, 1) := by decide +kernel
theorem dX11_readTape_34 : decode cX11_readTape 34 = .ok (.iconst (-1), 1) := by decide +kernel
theorem dX11_readTape_35 : decode cX11_readTape 35 = .ok (.putfield 49, 3) := by decide +kernel
theorem dX11_readTape_38 : decode cX11_readTape 38 = .ok (.iload 4, 2) := by decide +kernel
theorem dX11_readTape_40 : decode cX11_readTape 40 = .ok (.ifCond .eq 10, 3) := by decide +kernel
theorem dX11_readTape_43 : decode cX11_readTape 43 = .ok (.iload_n 3, 1) := by decide +kernel
theorem dX11_readTape_44 : decode cX11_readTape 44 = .ok (.invokestatic 73, 3) := by decide +kernel
theorem dX11_readTape_47 : decode cX11_readTape 47 = .ok (.ifCond .ne 6, 3) := by decide +kernel
theorem dX11_readTape_50 : decode cX11_readTape 50 = .ok (.bipush 9, 2) := by decide +kernel
theorem dX11_readTape_52 : decode cX11_readTape 52 = .ok (.ireturn, 1) := by decide +kernel
theorem dX11_readTape_53 : decode cX11_readTape 53 = .ok (.aload_n 0, 1) := by decide +kernel
theorem dX11_readTape_54 : decode cX11_readTape 54 = .ok (.getfield 37, 3) := by decide +kernel
theorem dX11_readTape_57 : decode cX11_readTape 57 = .ok (.aload_n 0, 1) := by decide +kernel
theorem dX11_readTape_58 : decode cX11_readTape 58 = .ok (.getfield 41, 3) := by decide +kernel
theorem dX11_readTape_61 : decode cX11_readTape 61 = .ok (.iload_n 2, 1) := by decide +kernel
theorem dX11_readTape_62 : decode cX11_readTape 62 = .ok (.aload_n 0, 1) := by decide +kernel
theorem dX11_readTape_63 : decode cX11_readTape 63 = .ok (.getfield 10, 3) := by decide +kernel
theorem dX11_readTape_66 : decode cX11_readTape 66 = .ok (.getfield 63, 3) := by decide +kernel
theorem dX11_readTape_69 : decode cX11_readTape 69 = .ok (.aload_n 0, 1) := by decide +kernel
theorem dX11_readTape_70 : decode cX11_readTape 70 = .ok (.getfield 55, 3) := by decide +kernel
theorem dX11_readTape_73 : decode cX11_readTape 73 = .ok (.invokevirtual 382, 3) := by decide +kernel
theorem dX11_readTape_76 : decode cX11_readTape 76 = .ok (.istore 5, 2) := by decide +kernel
theorem dX11_readTape_78 : decode cX11_readTape 78 = .ok (.aload_n 0, 1) := by decide +kernel
theorem dX11_readTape_79 : decode cX11_readTape 79 = .ok (.aload_n 0, 1) := by decide +kernel
theorem dX11_readTape_80 : decode cX11_readTape 80 = .ok (.getfield 37, 3) := by decide +kernel
theorem dX11_readTape_83 : decode cX11_readTape 83 = .ok (.getfield 386, 3) := by decide +kernel
theorem dX11_readTape_86 : decode cX11_readTape 86 = .ok (.putfield 49, 3) := by decide +kernel
theorem dX11_readTape_89 : decode cX11_readTape 89 = .ok (.aload_n 0, 1) := by decide +kernel
theorem dX11_readTape_90 : decode cX11_readTape 90 = .ok (.getfield 55, 3) := by decide +kernel
theorem dX11_readTape_93 : decode cX11_readTape 93 = .ok (.iload_n 1, 1) := by decide +kernel
theorem dX11_readTape_94 : decode cX11_readTape 94 = .ok (.putfield 387, 3) := by decide +kernel
theorem dX11_readTape_97 : decode cX11_readTape 97 = .ok (.aload_n 0, 1) := by decide +kernel
theorem dX11_readTape_98 : decode cX11_readTape 98 = .ok (.getfield 55, 3) := by decide +kernel
theorem dX11_readTape_101 : decode cX11_readTape 101 = .ok (.iload_n 3, 1) := by decide +kernel
theorem dX11_readTape_102 : decode cX11_readTape 102 = .ok (.putfield 388, 3) := by decide +kernel
theorem dX11_readTape_105 : decode cX11_readTape 105 = .ok (.iload 5, 2) := by decide +kernel
theorem dX11_readTape_107 : decode cX11_readTape 107 = .ok (.ireturn, 1) := by decide +kernel
theorem dX11_tellHidden_0 : decode cX11_tellHidden 0 = .ok (.iload_n 2, 1) := by decide +kernel
theorem dX11_tellHidden_1 : decode cX11_tellHidden 1 = .ok (.tableswitch 42 0 2 #[27, 32, 37], 27) := by decide +kernel
theorem dX11_tellHidden_28 : decode cX11_tellHidden 28 = .ok (.aload_n 0, 1) := by decide +kernel
theorem dX11_tellHidden_29 : decode cX11_tellHidden 29 = .ok (.getfield 285, 3) := by decide +kernel
theorem dX11_tellHidden_32 : decode cX11_tellHidden 32 = .ok (.ireturn, 1) := by decide +kernel
theorem dX11_tellHidden_33 : decode cX11_tellHidden 33 = .ok (.aload_n 1, 1) := by decide +kernel
theorem dX11_tellHidden_34 : decode cX11_tellHidden 34 = .ok (.getfield 285, 3) := by decide +kernel
theorem dX11_tellHidden_37 : decode cX11_tellHidden 37 = .ok (.ireturn, 1) := by decide +kernel
theorem dX11_tellHidden_38 : decode cX11_tellHidden 38 = .ok (.aload_n 0, 1) := by decide +kernel
theorem dX11_tellHidden_39 : decode cX11_tellHidden 39 = .ok (.getfield 342, 3) := by decide +kernel
theorem dX11_tellHidden_42 : decode cX11_tellHidden 42 = .ok (.ireturn, 1) := by decide +kernel
theorem dX11_tellHidden_43 : decode cX11_tellHidden 43 = .ok (.aload_n 1, 1) := by decide +kernel
theorem dX11_tellHidden_44 : decode cX11_tellHidden 44 = .ok (.getfield 348, 3) := by decide +kernel
theorem dX11_tellHidden_47 : decode cX11_tellHidden 47 = .ok (.ireturn, 1) := by decide +kernel
theorem dX11_tryDraft_0 : decode cX11_tryDraft 0 = .ok (.aload_n 0, 1) := by decide +kernel
theorem dX11_tryDraft_1 : decode cX11_tryDraft 1 = .ok (.getfield 21, 3) := by decide +kernel
theorem dX11_tryDraft_4 : decode cX11_tryDraft 4 = .ok (.aload_n 0, 1) := by decide +kernel
theorem dX11_tryDraft_5 : decode cX11_tryDraft 5 = .ok (.getfield 10, 3) := by decide +kernel
theorem dX11_tryDraft_8 : decode cX11_tryDraft 8 = .ok (.getfield 148, 3) := by decide +kernel
theorem dX11_tryDraft_11 : decode cX11_tryDraft 11 = .ok (.invokevirtual 264, 3) := by decide +kernel
theorem dX11_tryDraft_14 : decode cX11_tryDraft 14 = .ok (.iconst 0, 1) := by decide +kernel
theorem dX11_tryDraft_15 : decode cX11_tryDraft 15 = .ok (.istore_n 1, 1) := by decide +kernel
theorem dX11_tryDraft_16 : decode cX11_tryDraft 16 = .ok (.iload_n 1, 1) := by decide +kernel
theorem dX11_tryDraft_17 : decode cX11_tryDraft 17 = .ok (.aload_n 0, 1) := by decide +kernel
theorem dX11_tryDraft_18 : decode cX11_tryDraft 18 = .ok (.getfield 59, 3) := by decide +kernel
theorem dX11_tryDraft_21 : decode cX11_tryDraft 21 = .ok (.arraylength, 1) := by decide +kernel
theorem dX11_tryDraft_22 : decode cX11_tryDraft 22 = .ok (.if_icmp .ge 16, 3) := by decide +kernel
theorem dX11_tryDraft_25 : decode cX11_tryDraft 25 = .ok (.aload_n 0, 1) := by decide +kernel
theorem dX11_tryDraft_26 : decode cX11_tryDraft 26 = .ok (.getfield 59, 3) := by decide +kernel
theorem dX11_tryDraft_29 : decode cX11_tryDraft 29 = .ok (.iload_n 1, 1) := by decide +kernel
theorem dX11_tryDraft_30 : decode cX11_tryDraft 30 = .ok (.lconst 0, 1) := by decide +kernel
theorem dX11_tryDraft_31 : decode cX11_tryDraft 31 = .ok (.lastore, 1) := by decide +kernel
theorem dX11_tryDraft_32 : decode cX11_tryDraft 32 = .ok (.iinc 1 1, 3) := by decide +kernel
theorem dX11_tryDraft_35 : decode cX11_tryDraft 35 = .ok (.goto (-19), 3) := by decide +kernel
theorem dX11_tryDraft_38 : decode cX11_tryDraft 38 = .ok (.iconst 0, 1) := by decide +kernel
theorem dX11_tryDraft_39 : decode cX11_tryDraft 39 = .ok (.istore_n 1, 1) := by decide +kernel
theorem dX11_tryDraft_40 : decode cX11_tryDraft 40 = .ok (.iload_n 1, 1) := by decide +kernel
theorem dX11_tryDraft_41 : decode cX11_tryDraft 41 = .ok (.aload_n 0, 1) := by decide +kernel
theorem dX11_tryDraft_42 : decode cX11_tryDraft 42 = .ok (.getfield 10, 3) := by decide +kernel
theorem dX11_tryDraft_45 : decode cX11_tryDraft 45 = .ok (.getfield 209, 3) := by decide +kernel
theorem dX11_tryDraft_48 : decode cX11_tryDraft 48 = .ok (.if_icmp .ge 162, 3) := by decide +kernel
theorem dX11_tryDraft_51 : decode cX11_tryDraft 51 = .ok (.aload_n 0, 1) := by decide +kernel
theorem dX11_tryDraft_52 : decode cX11_tryDraft 52 = .ok (.getfield 10, 3) := by decide +kernel
theorem dX11_tryDraft_55 : decode cX11_tryDraft 55 = .ok (.iload_n 1, 1) := by decide +kernel
theorem dX11_tryDraft_56 : decode cX11_tryDraft 56 = .ok (.invokevirtual 218, 3) := by decide +kernel
theorem dX11_tryDraft_59 : decode cX11_tryDraft 59 = .ok (.astore_n 2, 1) := by decide +kernel
theorem dX11_tryDraft_60 : decode cX11_tryDraft 60 = .ok (.aload_n 2, 1) := by decide +kernel
theorem dX11_tryDraft_61 : decode cX11_tryDraft 61 = .ok (.getfield 368, 3) := by decide +kernel
theorem dX11_tryDraft_64 : decode cX11_tryDraft 64 = .ok (.iconst 2, 1) := by decide +kernel
theorem dX11_tryDraft_65 : decode cX11_tryDraft 65 = .ok (.if_icmp .ne 35, 3) := by decide +kernel
theorem dX11_tryDraft_68 : decode cX11_tryDraft 68 = .ok (.aload_n 2, 1) := by decide +kernel
theorem dX11_tryDraft_69 : decode cX11_tryDraft 69 = .ok (.getfield 189, 3) := by decide +kernel
theorem dX11_tryDraft_72 : decode cX11_tryDraft 72 = .ok (.aload_n 0, 1) := by decide +kernel
theorem dX11_tryDraft_73 : decode cX11_tryDraft 73 = .ok (.getfield 55, 3) := by decide +kernel
theorem dX11_tryDraft_76 : decode cX11_tryDraft 76 = .ok (.getfield 387, 3) := by decide +kernel
theorem dX11_tryDraft_79 : decode cX11_tryDraft 79 = .ok (.if_icmp .ne 21, 3) := by decide +kernel
theorem dX11_tryDraft_82 : decode cX11_tryDraft 82 = .ok (.aload_n 2, 1) := by decide +kernel
theorem dX11_tryDraft_83 : decode cX11_tryDraft 83 = .ok (.aload_n 0, 1) := by decide +kernel
theorem dX11_tryDraft_84 : decode cX11_tryDraft 84 = .ok (.getfield 10, 3) := by decide +kernel
theorem dX11_tryDraft_87 : decode cX11_tryDraft 87 = .ok (.getfield 148, 3) := by decide +kernel
theorem dX11_tryDraft_90 : decode cX11_tryDraft 90 = .ok (.invokevirtual 261, 3) := by decide +kernel
theorem dX11_tryDraft_93 : decode cX11_tryDraft 93 = .ok (.ifCond .eq 7, 3) := by decide +kernel
theorem dX11_tryDraft_96 : decode cX11_tryDraft 96 = .ok (.iconst 1, 1) := by decide +kernel
theorem dX11_tryDraft_97 : decode cX11_tryDraft 97 = .ok (.goto 4, 3) := by decide +kernel
theorem dX11_tryDraft_100 : decode cX11_tryDraft 100 = .ok (.iconst 0, 1) := by decide +kernel
theorem dX11_tryDraft_101 : decode cX11_tryDraft 101 = .ok (.istore_n 3, 1) := by decide +kernel
theorem dX11_tryDraft_102 : decode cX11_tryDraft 102 = .ok (.aload_n 0, 1) := by decide +kernel
theorem dX11_tryDraft_103 : decode cX11_tryDraft 103 = .ok (.getfield 10, 3) := by decide +kernel
theorem dX11_tryDraft_106 : decode cX11_tryDraft 106 = .ok (.aload_n 0, 1) := by decide +kernel
theorem dX11_tryDraft_107 : decode cX11_tryDraft 107 = .ok (.getfield 10, 3) := by decide +kernel
theorem dX11_tryDraft_110 : decode cX11_tryDraft 110 = .ok (.aload_n 2, 1) := by decide +kernel
theorem dX11_tryDraft_111 : decode cX11_tryDraft 111 = .ok (.getfield 189, 3) := by decide +kernel
theorem dX11_tryDraft_114 : decode cX11_tryDraft 114 = .ok (.aload_n 2, 1) := by decide +kernel
theorem dX11_tryDraft_115 : decode cX11_tryDraft 115 = .ok (.getfield 285, 3) := by decide +kernel
theorem dX11_tryDraft_118 : decode cX11_tryDraft 118 = .ok (.aload_n 0, 1) := by decide +kernel
theorem dX11_tryDraft_119 : decode cX11_tryDraft 119 = .ok (.getfield 10, 3) := by decide +kernel
theorem dX11_tryDraft_122 : decode cX11_tryDraft 122 = .ok (.getfield 148, 3) := by decide +kernel
theorem dX11_tryDraft_125 : decode cX11_tryDraft 125 = .ok (.invokevirtual 288, 3) := by decide +kernel
theorem dX11_tryDraft_128 : decode cX11_tryDraft 128 = .ok (.invokevirtual 214, 3) := by decide +kernel
theorem dX11_tryDraft_131 : decode cX11_tryDraft 131 = .ok (.astore 4, 2) := by decide +kernel
theorem dX11_tryDraft_133 : decode cX11_tryDraft 133 = .ok (.iload_n 3, 1) := by decide +kernel
theorem dX11_tryDraft_134 : decode cX11_tryDraft 134 = .ok (.ifCond .eq 70, 3) := by decide +kernel
theorem dX11_tryDraft_137 : decode cX11_tryDraft 137 = .ok (.aload_n 0, 1) := by decide +kernel
theorem dX11_tryDraft_138 : decode cX11_tryDraft 138 = .ok (.getfield 55, 3) := by decide +kernel
theorem dX11_tryDraft_141 : decode cX11_tryDraft 141 = .ok (.getfield 388, 3) := by decide +kernel
theorem dX11_tryDraft_144 : decode cX11_tryDraft 144 = .ok (.aload_n 2, 1) := by decide +kernel
theorem dX11_tryDraft_145 : decode cX11_tryDraft 145 = .ok (.getfield 285, 3) := by decide +kernel
theorem dX11_tryDraft_148 : decode cX11_tryDraft 148 = .ok (.if_icmp .gt 56, 3) := by decide +kernel
theorem dX11_tryDraft_151 : decode cX11_tryDraft 151 = .ok (.aload_n 0, 1) := by decide +kernel
theorem dX11_tryDraft_152 : decode cX11_tryDraft 152 = .ok (.getfield 55, 3) := by decide +kernel
theorem dX11_tryDraft_155 : decode cX11_tryDraft 155 = .ok (.getfield 388, 3) := by decide +kernel
theorem dX11_tryDraft_158 : decode cX11_tryDraft 158 = .ok (.aload 4, 2) := by decide +kernel
theorem dX11_tryDraft_160 : decode cX11_tryDraft 160 = .ok (.getfield 388, 3) := by decide +kernel
theorem dX11_tryDraft_163 : decode cX11_tryDraft 163 = .ok (.if_icmp .lt 41, 3) := by decide +kernel
theorem dX11_tryDraft_166 : decode cX11_tryDraft 166 = .ok (.aload_n 0, 1) := by decide +kernel
theorem dX11_tryDraft_167 : decode cX11_tryDraft 167 = .ok (.getfield 21, 3) := by decide +kernel
theorem dX11_tryDraft_170 : decode cX11_tryDraft 170 = .ok (.aload_n 2, 1) := by decide +kernel
theorem dX11_tryDraft_171 : decode cX11_tryDraft 171 = .ok (.invokevirtual 391, 3) := by decide +kernel
theorem dX11_tryDraft_174 : decode cX11_tryDraft 174 = .ok (.aload_n 0, 1) := by decide +kernel
theorem dX11_tryDraft_175 : decode cX11_tryDraft 175 = .ok (.getfield 21, 3) := by decide +kernel
theorem dX11_tryDraft_178 : decode cX11_tryDraft 178 = .ok (.aload 4, 2) := by decide +kernel
theorem dX11_tryDraft_180 : decode cX11_tryDraft 180 = .ok (.invokevirtual 395, 3) := by decide +kernel
theorem dX11_tryDraft_183 : decode cX11_tryDraft 183 = .ok (.aload_n 0, 1) := by decide +kernel
theorem dX11_tryDraft_184 : decode cX11_tryDraft 184 = .ok (.iconst (-1), 1) := by decide +kernel
theorem dX11_tryDraft_185 : decode cX11_tryDraft 185 = .ok (.invokevirtual 399, 3) := by decide +kernel
theorem dX11_tryDraft_188 : decode cX11_tryDraft 188 = .ok (.aload_n 0, 1) := by decide +kernel
theorem dX11_tryDraft_189 : decode cX11_tryDraft 189 = .ok (.getfield 21, 3) := by decide +kernel
theorem dX11_tryDraft_192 : decode cX11_tryDraft 192 = .ok (.aload_n 0, 1) := by decide +kernel
theorem dX11_tryDraft_193 : decode cX11_tryDraft 193 = .ok (.getfield 55, 3) := by decide +kernel
theorem dX11_tryDraft_196 : decode cX11_tryDraft 196 = .ok (.invokevirtual 395, 3) := by decide +kernel
theorem dX11_tryDraft_199 : decode cX11_tryDraft 199 = .ok (.aload_n 0, 1) := by decide +kernel
theorem dX11_tryDraft_200 : decode cX11_tryDraft 200 = .ok (.iconst 1, 1) := by decide +kernel
theorem dX11_tryDraft_201 : decode cX11_tryDraft 201 = .ok (.invokevirtual 399, 3) := by decide +kernel
theorem dX11_tryDraft_204 : decode cX11_tryDraft 204 = .ok (.iinc 1 1, 3) := by decide +kernel
theorem dX11_tryDraft_207 : decode cX11_tryDraft 207 = .ok (.goto (-167), 3) := by decide +kernel
theorem dX11_tryDraft_210 : decode cX11_tryDraft 210 = .ok (.return_, 1) := by decide +kernel
theorem dX11_addShares_0 : decode cX11_addShares 0 = .ok (.iconst 0, 1) := by decide +kernel
theorem dX11_addShares_1 : decode cX11_addShares 1 = .ok (.istore_n 2, 1) := by decide +kernel
theorem dX11_addShares_2 : decode cX11_addShares 2 = .ok (.iload_n 2, 1) := by decide +kernel
theorem dX11_addShares_3 : decode cX11_addShares 3 = .ok (.aload_n 0, 1) := by decide +kernel
theorem dX11_addShares_4 : decode cX11_addShares 4 = .ok (.getfield 59, 3) := by decide +kernel
theorem dX11_addShares_7 : decode cX11_addShares 7 = .ok (.arraylength, 1) := by decide +kernel
theorem dX11_addShares_8 : decode cX11_addShares 8 = .ok (.if_icmp .ge 31, 3) := by decide +kernel
theorem dX11_addShares_11 : decode cX11_addShares 11 = .ok (.aload_n 0, 1) := by decide +kernel
theorem dX11_addShares_12 : decode cX11_addShares 12 = .ok (.getfield 59, 3) := by decide +kernel
theorem dX11_addShares_15 : decode cX11_addShares 15 = .ok (.iload_n 2, 1) := by decide +kernel
theorem dX11_addShares_16 : decode cX11_addShares 16 = .ok (.dup2, 1) := by decide +kernel
theorem dX11_addShares_17 : decode cX11_addShares 17 = .ok (.laload, 1) := by decide +kernel
theorem dX11_addShares_18 : decode cX11_addShares 18 = .ok (.iload_n 1, 1) := by decide +kernel
theorem dX11_addShares_19 : decode cX11_addShares 19 = .ok (.i2l, 1) := by decide +kernel
theorem dX11_addShares_20 : decode cX11_addShares 20 = .ok (.aload_n 0, 1) := by decide +kernel
theorem dX11_addShares_21 : decode cX11_addShares 21 = .ok (.getfield 21, 3) := by decide +kernel
theorem dX11_addShares_24 : decode cX11_addShares 24 = .ok (.getfield 298, 3) := by decide +kernel
theorem dX11_addShares_27 : decode cX11_addShares 27 = .ok (.iload_n 2, 1) := by decide +kernel
theorem dX11_addShares_28 : decode cX11_addShares 28 = .ok (.iaload, 1) := by decide +kernel
theorem dX11_addShares_29 : decode cX11_addShares 29 = .ok (.i2l, 1) := by decide +kernel
theorem dX11_addShares_30 : decode cX11_addShares 30 = .ok (.lmul, 1) := by decide +kernel
theorem dX11_addShares_31 : decode cX11_addShares 31 = .ok (.ladd, 1) := by decide +kernel
theorem dX11_addShares_32 : decode cX11_addShares 32 = .ok (.lastore, 1) := by decide +kernel
theorem dX11_addShares_33 : decode cX11_addShares 33 = .ok (.iinc 2 1, 3) := by decide +kernel
theorem dX11_addShares_36 : decode cX11_addShares 36 = .ok (.goto (-34), 3) := by decide +kernel
theorem dX11_addShares_39 : decode cX11_addShares 39 = .ok (.return_, 1) := by decide +kernel
theorem dX12_init_0 : decode cX12_init 0 = .ok (.aload_n 0, 1) := by decide +kernel
theorem dX12_init_1 : decode cX12_init 1 = .ok (.invokespecial 1, 3) := by decide +kernel
theorem dX12_init_4 : decode cX12_init 4 = .ok (.aload_n 0, 1) := by decide +kernel
theorem dX12_init_5 : decode cX12_init 5 = .ok (.bipush 30, 2) := by decide +kernel
theorem dX12_init_7 : decode cX12_init 7 = .ok (.newarray .int, 2) := by decide +kernel
theorem dX12_init_9 : decode cX12_init 9 = .ok (.putfield 7, 3) := by decide +kernel
theorem dX12_init_12 : decode cX12_init 12 = .ok (.aload_n 0, 1) := by decide +kernel
theorem dX12_init_13 : decode cX12_init 13 = .ok (.bipush 30, 2) := by decide +kernel
theorem dX12_init_15 : decode cX12_init 15 = .ok (.newarray .int, 2) := by decide +kernel
theorem dX12_init_17 : decode cX12_init 17 = .ok (.putfield 13, 3) := by decide +kernel
theorem dX12_init_20 : decode cX12_init 20 = .ok (.aload_n 0, 1) := by decide +kernel
theorem dX12_init_21 : decode cX12_init 21 = .ok (.bipush 30, 2) := by decide +kernel
theorem dX12_init_23 : decode cX12_init 23 = .ok (.newarray .int, 2) := by decide +kernel
theorem dX12_init_25 : decode cX12_init 25 = .ok (.putfield 16, 3) := by decide +kernel
theorem dX12_init_28 : decode cX12_init 28 = .ok (.aload_n 0, 1) := by decide +kernel
theorem dX12_init_29 : decode cX12_init 29 = .ok (.bipush 90, 2) := by decide +kernel
theorem dX12_init_31 : decode cX12_init 31 = .ok (.newarray .int, 2) := by decide +kernel
theorem dX12_init_33 : decode cX12_init 33 = .ok (.putfield 19, 3) := by decide +kernel
theorem dX12_init_36 : decode cX12_init 36 = .ok (.aload_n 0, 1) := by decide +kernel
theorem dX12_init_37 : decode cX12_init 37 = .ok (.bipush 90, 2) := by decide +kernel
theorem dX12_init_39 : decode cX12_init 39 = .ok (.newarray .int, 2) := by decide +kernel
theorem dX12_init_41 : decode cX12_init 41 = .ok (.putfield 22, 3) := by decide +kernel
theorem dX12_init_44 : decode cX12_init 44 = .ok (.aload_n 0, 1) := by decide +kernel
theorem dX12_init_45 : decode cX12_init 45 = .ok (.bipush 30, 2) := by decide +kernel
theorem dX12_init_47 : decode cX12_init 47 = .ok (.newarray .int, 2) := by decide +kernel
theorem dX12_init_49 : decode cX12_init 49 = .ok (.putfield 25, 3) := by decide +kernel
theorem dX12_init_52 : decode cX12_init 52 = .ok (.aload_n 0, 1) := by decide +kernel
theorem dX12_init_53 : decode cX12_init 53 = .ok (.bipush 30, 2) := by decide +kernel
theorem dX12_init_55 : decode cX12_init 55 = .ok (.newarray .int, 2) := by decide +kernel
theorem dX12_init_57 : decode cX12_init 57 = .ok (.putfield 28, 3) := by decide +kernel
theorem dX12_init_60 : decode cX12_init 60 = .ok (.aload_n 0, 1) := by decide +kernel
theorem dX12_init_61 : decode cX12_init 61 = .ok (.bipush 30, 2) := by decide +kernel
theorem dX12_init_63 : decode cX12_init 63 = .ok (.newarray .int, 2) := by decide +kernel
theorem dX12_init_65 : decode cX12_init 65 = .ok (.putfield 31, 3) := by decide +kernel
theorem dX12_init_68 : decode cX12_init 68 = .ok (.aload_n 0, 1) := by decide +kernel
theorem dX12_init_69 : decode cX12_init 69 = .ok (.bipush 30, 2) := by decide +kernel
theorem dX12_init_71 : decode cX12_init 71 = .ok (.newarray .int, 2) := by decide +kernel
theorem dX12_init_73 : decode cX12_init 73 = .ok (.putfield 34, 3) := by decide +kernel
theorem dX12_init_76 : decode cX12_init 76 = .ok (.aload_n 0, 1) := by decide +kernel
theorem dX12_init_77 : decode cX12_init 77 = .ok (.bipush 30, 2) := by decide +kernel
theorem dX12_init_79 : decode cX12_init 79 = .ok (.newarray .boolean, 2) := by decide +kernel
theorem dX12_init_81 : decode cX12_init 81 = .ok (.putfield 37, 3) := by decide +kernel
theorem dX12_init_84 : decode cX12_init 84 = .ok (.aload_n 0, 1) := by decide +kernel
theorem dX12_init_85 : decode cX12_init 85 = .ok (.iconst 5, 1) := by decide +kernel
theorem dX12_init_86 : decode cX12_init 86 = .ok (.newarray .int, 2) := by decide +kernel
theorem dX12_init_88 : decode cX12_init 88 = .ok (.putfield 41, 3) := by decide +kernel
theorem dX12_init_91 : decode cX12_init 91 = .ok (.aload_n 0, 1) := by decide +kernel
theorem dX12_init_92 : decode cX12_init 92 = .ok (.iconst 5, 1) := by decide +kernel
theorem dX12_init_93 : decode cX12_init 93 = .ok (.newarray .int, 2) := by decide +kernel
theorem dX12_init_95 : decode cX12_init 95 = .ok (.putfield 44, 3) := by decide +kernel
theorem dX12_init_98 : decode cX12_init 98 = .ok (.aload_n 0, 1) := by decide +kernel
theorem dX12_init_99 : decode cX12_init 99 = .ok (.bipush 60, 2) := by decide +kernel
theorem dX12_init_101 : decode cX12_init 101 = .ok (.newarray .int, 2) := by decide +kernel
theorem dX12_init_103 : decode cX12_init 103 = .ok (.putfield 47, 3) := by decide +kernel
theorem dX12_init_106 : decode cX12_init 106 = .ok (.aload_n 0, 1) := by decide +kernel
theorem dX12_init_107 : decode cX12_init 107 = .ok (.bipush 60, 2) := by decide +kernel
theorem dX12_init_109 : decode cX12_init 109 = .ok (.newarray .int, 2) := by decide +kernel
theorem dX12_init_111 : decode cX12_init 111 = .ok (.putfield 50, 3) := by decide +kernel
theorem dX12_init_114 : decode cX12_init 114 = .ok (.aload_n 0, 1) := by decide +kernel
theorem dX12_init_115 : decode cX12_init 115 = .ok (.bipush 60, 2) := by decide +kernel
theorem dX12_init_117 : decode cX12_init 117 = .ok (.newarray .int, 2) := by decide +kernel
theorem dX12_init_119 : decode cX12_init 119 = .ok (.putfield 53, 3) := by decide +kernel
theorem dX12_init_122 : decode cX12_init 122 = .ok (.aload_n 0, 1) := by decide +kernel
theorem dX12_init_123 : decode cX12_init 123 = .ok (.sipush 200, 3) := by decide +kernel
theorem dX12_init_126 : decode cX12_init 126 = .ok (.newarray .int, 2) := by decide +kernel
theorem dX12_init_128 : decode cX12_init 128 = .ok (.putfield 56, 3) := by decide +kernel
theorem dX12_init_131 : decode cX12_init 131 = .ok (.aload_n 0, 1) := by decide +kernel
theorem dX12_init_132 : decode cX12_init 132 = .ok (.sipush 200, 3) := by decide +kernel
theorem dX12_init_135 : decode cX12_init 135 = .ok (.newarray .int, 2) := by decide +kernel
theorem dX12_init_137 : decode cX12_init 137 = .ok (.putfield 59, 3) := by decide +kernel
theorem dX12_init_140 : decode cX12_init 140 = .ok (.aload_n 0, 1) := by decide +kernel
theorem dX12_init_141 : decode cX12_init 141 = .ok (.sipush 200, 3) := by decide +kernel
theorem dX12_init_144 : decode cX12_init 144 = .ok (.newarray .int, 2) := by decide +kernel
theorem dX12_init_146 : decode cX12_init 146 = .ok (.putfield 62, 3) := by decide +kernel
theorem dX12_init_149 : decode cX12_init 149 = .ok (.aload_n 0, 1) := by decide +kernel
theorem dX12_init_150 : decode cX12_init 150 = .ok (.sipush 200, 3) := by decide +kernel
theorem dX12_init_153 : decode cX12_init 153 = .ok (.newarray .int, 2) := by decide +kernel
theorem dX12_init_155 : decode cX12_init 155 = .ok (.putfield 65, 3) := by decide +kernel
theorem dX12_init_158 : decode cX12_init 158 = .ok (.aload_n 0, 1) := by decide +kernel
theorem dX12_init_159 : decode cX12_init 159 = .ok (.sipush 200, 3) := by decide +kernel
theorem dX12_init_162 : decode cX12_init 162 = .ok (.newarray .int, 2) := by decide +kernel
theorem dX12_init_164 : decode cX12_init 164 = .ok (.putfield 68, 3) := by decide +kernel
theorem dX12_init_167 : decode cX12_init 167 = .ok (.aload_n 0, 1) := by decide +kernel
theorem dX12_init_168 : decode cX12_init 168 = .ok (.sipush 200, 3) := by decide +kernel
theorem dX12_init_171 : decode cX12_init 171 = .ok (.newarray .int, 2) := by decide +kernel
theorem dX12_init_173 : decode cX12_init 173 = .ok (.putfield 71, 3) := by decide +kernel
theorem dX12_init_176 : decode cX12_init 176 = .ok (.aload_n 0, 1) := by decide +kernel
theorem dX12_init_177 : decode cX12_init 177 = .ok (.sipush 200, 3) := by decide +kernel
theorem dX12_init_180 : decode cX12_init 180 = .ok (.newarray .int, 2) := by decide +kernel
theorem dX12_init_182 : decode cX12_init 182 = .ok (.putfield 74, 3) := by decide +kernel
theorem dX12_init_185 : decode cX12_init 185 = .ok (.aload_n 0, 1) := by decide +kernel
theorem dX12_init_186 : decode cX12_init 186 = .ok (.sipush 200, 3) := by decide +kernel
theorem dX12_init_189 : decode cX12_init 189 = .ok (.newarray .int, 2) := by decide +kernel
theorem dX12_init_191 : decode cX12_init 191 = .ok (.putfield 77, 3) := by decide +kernel
theorem dX12_init_194 : decode cX12_init 194 = .ok (.aload_n 0, 1) := by decide +kernel
theorem dX12_init_195 : decode cX12_init 195 = .ok (.sipush 200, 3) := by decide +kernel
theorem dX12_init_198 : decode cX12_init 198 = .ok (.newarray .int, 2) := by decide +kernel
theorem dX12_init_200 : decode cX12_init 200 = .ok (.putfield 80, 3) := by decide +kernel
theorem dX12_init_203 : decode cX12_init 203 = .ok (.aload_n 0, 1) := by decide +kernel
theorem dX12_init_204 : decode cX12_init 204 = .ok (.sipush 200, 3) := by decide +kernel
theorem dX12_init_207 : decode cX12_init 207 = .ok (.newarray .int, 2) := by decide +kernel
theorem dX12_init_209 : decode cX12_init 209 = .ok (.putfield 83, 3) := by decide +kernel
theorem dX12_init_212 : decode cX12_init 212 = .ok (.aload_n 0, 1) := by decide +kernel
theorem dX12_init_213 : decode cX12_init 213 = .ok (.sipush 200, 3) := by decide +kernel
theorem dX12_init_216 : decode cX12_init 216 = .ok (.newarray .int, 2) := by decide +kernel
theorem dX12_init_218 : decode cX12_init 218 = .ok (.putfield 86, 3) := by decide +kernel
theorem dX12_init_221 : decode cX12_init 221 = .ok (.aload_n 0, 1) := by decide +kernel
theorem dX12_init_222 : decode cX12_init 222 = .ok (.sipush 200, 3) := by decide +kernel
theorem dX12_init_225 : decode cX12_init 225 = .ok (.newarray .int, 2) := by decide +kernel
theorem dX12_init_227 : decode cX12_init 227 = .ok (.putfield 89, 3) := by decide +kernel
theorem dX12_init_230 : decode cX12_init 230 = .ok (.aload_n 0, 1) := by decide +kernel
theorem dX12_init_231 : decode cX12_init 231 = .ok (.sipush 200, 3) := by decide +kernel
theorem dX12_init_234 : decode cX12_init 234 = .ok (.newarray .int, 2) := by decide +kernel
theorem dX12_init_236 : decode cX12_init 236 = .ok (.putfield 92, 3) := by decide +kernel
theorem dX12_init_239 : decode cX12_init 239 = .ok (.aload_n 0, 1) := by decide +kernel
theorem dX12_init_240 : decode cX12_init 240 = .ok (.sipush 200, 3) := by decide +kernel
theorem dX12_init_243 : decode cX12_init 243 = .ok (.newarray .int, 2) := by decide +kernel
theorem dX12_init_245 : decode cX12_init 245 = .ok (.putfield 95, 3) := by decide +kernel
theorem dX12_init_248 : decode cX12_init 248 = .ok (.aload_n 0, 1) := by decide +kernel
theorem dX12_init_249 : decode cX12_init 249 = .ok (.sipush 500, 3) := by decide +kernel
theorem dX12_init_252 : decode cX12_init 252 = .ok (.newarray .int, 2) := by decide +kernel
theorem dX12_init_254 : decode cX12_init 254 = .ok (.putfield 98, 3) := by decide +kernel
theorem dX12_init_257 : decode cX12_init 257 = .ok (.aload_n 0, 1) := by decide +kernel
theorem dX12_init_258 : decode cX12_init 258 = .ok (.iconst (-1), 1) := by decide +kernel
theorem dX12_init_259 : decode cX12_init 259 = .ok (.putfield 101, 3) := by decide +kernel
theorem dX12_init_262 : decode cX12_init 262 = .ok (.aload_n 0, 1) := by decide +kernel
theorem dX12_init_263 : decode cX12_init 263 = .ok (.bipush 13, 2) := by decide +kernel
theorem dX12_init_265 : decode cX12_init 265 = .ok (.newarray .int, 2) := by decide +kernel
theorem dX12_init_267 : decode cX12_init 267 = .ok (.putfield 105, 3) := by decide +kernel
theorem dX12_init_270 : decode cX12_init 270 = .ok (.aload_n 0, 1) := by decide +kernel
theorem dX12_init_271 : decode cX12_init 271 = .ok (.bipush 13, 2) := by decide +kernel
theorem dX12_init_273 : decode cX12_init 273 = .ok (.newarray .int, 2) := by decide +kernel
theorem dX12_init_275 : decode cX12_init 275 = .ok (.putfield 108, 3) := by decide +kernel
theorem dX12_init_278 : decode cX12_init 278 = .ok (.aload_n 0, 1) := by decide +kernel
theorem dX12_init_279 : decode cX12_init 279 = .ok (.bipush 13, 2) := by decide +kernel
theorem dX12_init_281 : decode cX12_init 281 = .ok (.newarray .int, 2) := by decide +kernel
theorem dX12_init_283 : decode cX12_init 283 = .ok (.putfield 111, 3) := by decide +kernel
theorem dX12_init_286 : decode cX12_init 286 = .ok (.aload_n 0, 1) := by decide +kernel
theorem dX12_init_287 : decode cX12_init 287 = .ok (.bipush 13, 2) := by decide +kernel
theorem dX12_init_289 : decode cX12_init 289 = .ok (.newarray .int, 2) := by decide +kernel
theorem dX12_init_291 : decode cX12_init 291 = .ok (.putfield 114, 3) := by decide +kernel
theorem dX12_init_294 : decode cX12_init 294 = .ok (.aload_n 0, 1) := by decide +kernel
theorem dX12_init_295 : decode cX12_init 295 = .ok (.bipush 13, 2) := by decide +kernel
theorem dX12_init_297 : decode cX12_init 297 = .ok (.newarray .int, 2) := by decide +kernel
theorem dX12_init_299 : decode cX12_init 299 = .ok (.putfield 117, 3) := by decide +kernel
theorem dX12_init_302 : decode cX12_init 302 = .ok (.aload_n 0, 1) := by decide +kernel
theorem dX12_init_303 : decode cX12_init 303 = .ok (.bipush 13, 2) := by decide +kernel
theorem dX12_init_305 : decode cX12_init 305 = .ok (.newarray .int, 2) := by decide +kernel
theorem dX12_init_307 : decode cX12_init 307 = .ok (.putfield 120, 3) := by decide +kernel
theorem dX12_init_310 : decode cX12_init 310 = .ok (.aload_n 0, 1) := by decide +kernel
theorem dX12_init_311 : decode cX12_init 311 = .ok (.bipush 13, 2) := by decide +kernel
theorem dX12_init_313 : decode cX12_init 313 = .ok (.newarray .int, 2) := by decide +kernel
theorem dX12_init_315 : decode cX12_init 315 = .ok (.putfield 123, 3) := by decide +kernel
theorem dX12_init_318 : decode cX12_init 318 = .ok (.aload_n 0, 1) := by decide +kernel
theorem dX12_init_319 : decode cX12_init 319 = .ok (.bipush 13, 2) := by decide +kernel
theorem dX12_init_321 : decode cX12_init 321 = .ok (.newarray .int, 2) := by decide +kernel
theorem dX12_init_323 : decode cX12_init 323 = .ok (.putfield 126, 3) := by decide +kernel
theorem dX12_init_326 : decode cX12_init 326 = .ok (.aload_n 0, 1) := by decide +kernel
theorem dX12_init_327 : decode cX12_init 327 = .ok (.bipush 13, 2) := by decide +kernel
theorem dX12_init_329 : decode cX12_init 329 = .ok (.newarray .int, 2) := by decide +kernel
theorem dX12_init_331 : decode cX12_init 331 = .ok (.putfield 129, 3) := by decide +kernel
theorem dX12_init_334 : decode cX12_init 334 = .ok (.aload_n 0, 1) := by decide +kernel
theorem dX12_init_335 : decode cX12_init 335 = .ok (.bipush 13, 2) := by decide +kernel
theorem dX12_init_337 : decode cX12_init 337 = .ok (.newarray .int, 2) := by decide +kernel
theorem dX12_init_339 : decode cX12_init 339 = .ok (.putfield 132, 3) := by decide +kernel
theorem dX12_init_342 : decode cX12_init 342 = .ok (.aload_n 0, 1) := by decide +kernel
theorem dX12_init_343 : decode cX12_init 343 = .ok (.bipush 13, 2) := by decide +kernel
theorem dX12_init_345 : decode cX12_init 345 = .ok (.newarray .int, 2) := by decide +kernel
theorem dX12_init_347 : decode cX12_init 347 = .ok (.putfield 135, 3) := by decide +kernel
theorem dX12_init_350 : decode cX12_init 350 = .ok (.aload_n 0, 1) := by decide +kernel
theorem dX12_init_351 : decode cX12_init 351 = .ok (.bipush 13, 2) := by decide +kernel
theorem dX12_init_353 : decode cX12_init 353 = .ok (.newarray .int, 2) := by decide +kernel
theorem dX12_init_355 : decode cX12_init 355 = .ok (.putfield 138, 3) := by decide +kernel
theorem dX12_init_358 : decode cX12_init 358 = .ok (.aload_n 0, 1) := by decide +kernel
theorem dX12_init_359 : decode cX12_init 359 = .ok (.sipush 208, 3) := by decide +kernel
theorem dX12_init_362 : decode cX12_init 362 = .ok (.newarray .int, 2) := by decide +kernel
theorem dX12_init_364 : decode cX12_init 364 = .ok (.putfield 141, 3) := by decide +kernel
theorem dX12_init_367 : decode cX12_init 367 = .ok (.aload_n 0, 1) := by decide +kernel
theorem dX12_init_368 : decode cX12_init 368 = .ok (.sipush 208, 3) := by decide +kernel
theorem dX12_init_371 : decode cX12_init 371 = .ok (.newarray .int, 2) := by decide +kernel
theorem dX12_init_373 : decode cX12_init 373 = .ok (.putfield 144, 3) := by decide +kernel
theorem dX12_init_376 : decode cX12_init 376 = .ok (.aload_n 0, 1) := by decide +kernel
theorem dX12_init_377 : decode cX12_init 377 = .ok (.sipush 15800, 3) := by decide +kernel
theorem dX12_init_380 : decode cX12_init 380 = .ok (.newarray .int, 2) := by decide +kernel
theorem dX12_init_382 : decode cX12_init 382 = .ok (.putfield 147, 3) := by decide +kernel
theorem dX12_init_385 : decode cX12_init 385 = .ok (.aload_n 0, 1) := by decide +kernel
theorem dX12_init_386 : decode cX12_init 386 = .ok (.sipush 520, 3) := by decide +kernel
theorem dX12_init_389 : decode cX12_init 389 = .ok (.newarray .int, 2) := by decide +kernel
theorem dX12_init_391 : decode cX12_init 391 = .ok (.putfield 150, 3) := by decide +kernel
theorem dX12_init_394 : decode cX12_init 394 = .ok (.aload_n 0, 1) := by decide +kernel
theorem dX12_init_395 : decode cX12_init 395 = .ok (.bipush 9, 2) := by decide +kernel
theorem dX12_init_397 : decode cX12_init 397 = .ok (.newarray .boolean, 2) := by decide +kernel
theorem dX12_init_399 : decode cX12_init 399 = .ok (.putfield 153, 3) := by decide +kernel
theorem dX12_init_402 : decode cX12_init 402 = .ok (.aload_n 0, 1) := by decide +kernel
theorem dX12_init_403 : decode cX12_init 403 = .ok (.bipush 30, 2) := by decide +kernel
theorem dX12_init_405 : decode cX12_init 405 = .ok (.newarray .int, 2) := by decide +kernel
theorem dX12_init_407 : decode cX12_init 407 = .ok (.putfield 156, 3) := by decide +kernel
theorem dX12_init_410 : decode cX12_init 410 = .ok (.aload_n 0, 1) := by decide +kernel
theorem dX12_init_411 : decode cX12_init 411 = .ok (.bipush 30, 2) := by decide +kernel
theorem dX12_init_413 : decode cX12_init 413 = .ok (.newarray .int, 2) := by decide +kernel
theorem dX12_init_415 : decode cX12_init 415 = .ok (.putfield 159, 3) := by decide +kernel
theorem dX12_init_418 : decode cX12_init 418 = .ok (.aload_n 0, 1) := by decide +kernel
theorem dX12_init_419 : decode cX12_init 419 = .ok (.bipush 31, 2) := by decide +kernel
theorem dX12_init_421 : decode cX12_init 421 = .ok (.newarray .int, 2) := by decide +kernel
theorem dX12_init_423 : decode cX12_init 423 = .ok (.putfield 162, 3) := by decide +kernel
theorem dX12_init_426 : decode cX12_init 426 = .ok (.aload_n 0, 1) := by decide +kernel
theorem dX12_init_427 : decode cX12_init 427 = .ok (.sipush 200, 3) := by decide +kernel
theorem dX12_init_430 : decode cX12_init 430 = .ok (.newarray .int, 2) := by decide +kernel
theorem dX12_init_432 : decode cX12_init 432 = .ok (.putfield 165, 3) := by decide +kernel
theorem dX12_init_435 : decode cX12_init 435 = .ok (.aload_n 0, 1) := by decide +kernel
theorem dX12_init_436 : decode cX12_init 436 = .ok (.bipush 10, 2) := by decide +kernel
theorem dX12_init_438 : decode cX12_init 438 = .ok (.newarray .int, 2) := by decide +kernel
theorem dX12_init_440 : decode cX12_init 440 = .ok (.putfield 168, 3) := by decide +kernel
theorem dX12_init_443 : decode cX12_init 443 = .ok (.aload_n 0, 1) := by decide +kernel
theorem dX12_init_444 : decode cX12_init 444 = .ok (.sipush 520, 3) := by decide +kernel
theorem dX12_init_447 : decode cX12_init 447 = .ok (.newarray .int, 2) := by decide +kernel
theorem dX12_init_449 : decode cX12_init 449 = .ok (.putfield 171, 3) := by decide +kernel
theorem dX12_init_452 : decode cX12_init 452 = .ok (.aload_n 0, 1) := by decide +kernel
theorem dX12_init_453 : decode cX12_init 453 = .ok (.bipush 30, 2) := by decide +kernel
theorem dX12_init_455 : decode cX12_init 455 = .ok (.newarray .int, 2) := by decide +kernel
theorem dX12_init_457 : decode cX12_init 457 = .ok (.putfield 174, 3) := by decide +kernel
theorem dX12_init_460 : decode cX12_init 460 = .ok (.aload_n 0, 1) := by decide +kernel
theorem dX12_init_461 : decode cX12_init 461 = .ok (.bipush 30, 2) := by decide +kernel
theorem dX12_init_463 : decode cX12_init 463 = .ok (.newarray .int, 2) := by decide +kernel
theorem dX12_init_465 : decode cX12_init 465 = .ok (.putfield 177, 3) := by decide +kernel
theorem dX12_init_468 : decode cX12_init 468 = .ok (.aload_n 0, 1) := by decide +kernel
theorem dX12_init_469 : decode cX12_init 469 = .ok (.bipush 30, 2) := by decide +kernel
theorem dX12_init_471 : decode cX12_init 471 = .ok (.newarray .int, 2) := by decide +kernel
theorem dX12_init_473 : decode cX12_init 473 = .ok (.putfield 180, 3) := by decide +kernel
theorem dX12_init_476 : decode cX12_init 476 = .ok (.aload_n 0, 1) := by decide +kernel
theorem dX12_init_477 : decode cX12_init 477 = .ok (.bipush 30, 2) := by decide +kernel
theorem dX12_init_479 : decode cX12_init 479 = .ok (.newarray .int, 2) := by decide +kernel
theorem dX12_init_481 : decode cX12_init 481 = .ok (.putfield 183, 3) := by decide +kernel
theorem dX12_init_484 : decode cX12_init 484 = .ok (.aload_n 0, 1) := by decide +kernel
theorem dX12_init_485 : decode cX12_init 485 = .ok (.bipush 30, 2) := by decide +kernel
theorem dX12_init_487 : decode cX12_init 487 = .ok (.newarray .int, 2) := by decide +kernel
theorem dX12_init_489 : decode cX12_init 489 = .ok (.putfield 186, 3) := by decide +kernel
theorem dX12_init_492 : decode cX12_init 492 = .ok (.aload_n 0, 1) := by decide +kernel
theorem dX12_init_493 : decode cX12_init 493 = .ok (.bipush 30, 2) := by decide +kernel
theorem dX12_init_495 : decode cX12_init 495 = .ok (.newarray .int, 2) := by decide +kernel
theorem dX12_init_497 : decode cX12_init 497 = .ok (.putfield 189, 3) := by decide +kernel
theorem dX12_init_500 : decode cX12_init 500 = .ok (.aload_n 0, 1) := by decide +kernel
theorem dX12_init_501 : decode cX12_init 501 = .ok (.bipush 30, 2) := by decide +kernel
theorem dX12_init_503 : decode cX12_init 503 = .ok (.newarray .int, 2) := by decide +kernel
theorem dX12_init_505 : decode cX12_init 505 = .ok (.putfield 192, 3) := by decide +kernel
theorem dX12_init_508 : decode cX12_init 508 = .ok (.aload_n 0, 1) := by decide +kernel
theorem dX12_init_509 : decode cX12_init 509 = .ok (.bipush 25, 2) := by decide +kernel
theorem dX12_init_511 : decode cX12_init 511 = .ok (.newarray .long, 2) := by decide +kernel
theorem dX12_init_513 : decode cX12_init 513 = .ok (.putfield 195, 3) := by decide +kernel
theorem dX12_init_516 : decode cX12_init 516 = .ok (.aload_n 0, 1) := by decide +kernel
theorem dX12_init_517 : decode cX12_init 517 = .ok (.bipush 32, 2) := by decide +kernel
theorem dX12_init_519 : decode cX12_init 519 = .ok (.newarray .int, 2) := by decide +kernel
theorem dX12_init_521 : decode cX12_init 521 = .ok (.putfield 199, 3) := by decide +kernel
theorem dX12_init_524 : decode cX12_init 524 = .ok (.aload_n 0, 1) := by decide +kernel
theorem dX12_init_525 : decode cX12_init 525 = .ok (.sipush 200, 3) := by decide +kernel
theorem dX12_init_528 : decode cX12_init 528 = .ok (.newarray .int, 2) := by decide +kernel
theorem dX12_init_530 : decode cX12_init 530 = .ok (.putfield 202, 3) := by decide +kernel
theorem dX12_init_533 : decode cX12_init 533 = .ok (.aload_n 0, 1) := by decide +kernel
theorem dX12_init_534 : decode cX12_init 534 = .ok (.bipush 30, 2) := by decide +kernel
theorem dX12_init_536 : decode cX12_init 536 = .ok (.newarray .long, 2) := by decide +kernel
theorem dX12_init_538 : decode cX12_init 538 = .ok (.putfield 205, 3) := by decide +kernel
theorem dX12_init_541 : decode cX12_init 541 = .ok (.return_, 1) := by decide +kernel
theorem dX12_thrown_0 : decode cX12_thrown 0 = .ok (.aload_n 0, 1) := by decide +kernel
theorem dX12_thrown_1 : decode cX12_thrown 1 = .ok (.getfield 208, 3) := by decide +kernel
theorem dX12_thrown_4 : decode cX12_thrown 4 = .ok (.ireturn, 1) := by decide +kernel
theorem dX12_right_0 : decode cX12_right 0 = .ok (.aload_n 0, 1) := by decide +kernel
theorem dX12_right_1 : decode cX12_right 1 = .ok (.getfield 208, 3) := by decide +kernel
theorem dX12_right_4 : decode cX12_right 4 = .ok (.ifCond .ne 12, 3) := by decide +kernel
theorem dX12_right_7 : decode cX12_right 7 = .ok (.iload_n 1, 1) := by decide +kernel
theorem dX12_right_8 : decode cX12_right 8 = .ok (.ifCond .ne 8, 3) := by decide +kernel
theorem dX12_right_11 : decode cX12_right 11 = .ok (.aload_n 0, 1) := by decide +kernel
theorem dX12_right_12 : decode cX12_right 12 = .ok (.iload_n 2, 1) := by decide +kernel
theorem dX12_right_13 : decode cX12_right 13 = .ok (.putfield 208, 3) := by decide +kernel
theorem dX12_right_16 : decode cX12_right 16 = .ok (.aload_n 0, 1) := by decide +kernel
theorem dX12_right_17 : decode cX12_right 17 = .ok (.getfield 208, 3) := by decide +kernel
theorem dX12_right_20 : decode cX12_right 20 = .ok (.ifCond .ne 7, 3) := by decide +kernel
theorem dX12_right_23 : decode cX12_right 23 = .ok (.iconst 1, 1) := by decide +kernel
theorem dX12_right_24 : decode cX12_right 24 = .ok (.goto 4, 3) := by decide +kernel
theorem dX12_right_27 : decode cX12_right 27 = .ok (.iconst 0, 1) := by decide +kernel
theorem dX12_right_28 : decode cX12_right 28 = .ok (.ireturn, 1) := by decide +kernel
theorem dX12_isLand_0 : decode cX12_isLand 0 = .ok (.aload_n 0, 1) := by decide +kernel
theorem dX12_isLand_1 : decode cX12_isLand 1 = .ok (.iload_n 1, 1) := by decide +kernel
theorem dX12_isLand_2 : decode cX12_isLand 2 = .ok (.ifCond .lt 15, 3) := by decide +kernel
theorem dX12_isLand_5 : decode cX12_isLand 5 = .ok (.iload_n 1, 1) := by decide +kernel
theorem dX12_isLand_6 : decode cX12_isLand 6 = .ok (.aload_n 0, 1) := by decide +kernel
theorem dX12_isLand_7 : decode cX12_isLand 7 = .ok (.getfield 211, 3) := by decide +kernel
theorem dX12_isLand_10 : decode cX12_isLand 10 = .ok (.if_icmp .ge 7, 3) := by decide +kernel
theorem dX12_isLand_13 : decode cX12_isLand 13 = .ok (.iconst 1, 1) := by decide +kernel
theorem dX12_isLand_14 : decode cX12_isLand 14 = .ok (.goto 4, 3) := by decide +kernel
theorem dX12_isLand_17 : decode cX12_isLand 17 = .ok (.iconst 0, 1) := by decide +kernel
theorem dX12_isLand_18 : decode cX12_isLand 18 = .ok (.iconst 1, 1) := by decide +kernel
theorem dX12_isLand_19 : decode cX12_isLand 19 = .ok (.invokevirtual 214, 3) := by decide +kernel
theorem dX12_isLand_22 : decode cX12_isLand 22 = .ok (.ireturn, 1) := by decide +kernel
theorem dX12_isPerson_0 : decode cX12_isPerson 0 = .ok (.aload_n 0, 1) := by decide +kernel
theorem dX12_isPerson_1 : decode cX12_isPerson 1 = .ok (.iload_n 1, 1) := by decide +kernel
theorem dX12_isPerson_2 : decode cX12_isPerson 2 = .ok (.ifCond .lt 15, 3) := by decide +kernel
theorem dX12_isPerson_5 : decode cX12_isPerson 5 = .ok (.iload_n 1, 1) := by decide +kernel
theorem dX12_isPerson_6 : decode cX12_isPerson 6 = .ok (.aload_n 0, 1) := by decide +kernel
theorem dX12_isPerson_7 : decode cX12_isPerson 7 = .ok (.getfield 218, 3) := by decide +kernel
theorem dX12_isPerson_10 : decode cX12_isPerson 10 = .ok (.if_icmp .ge 7, 3) := by decide +kernel
theorem dX12_isPerson_13 : decode cX12_isPerson 13 = .ok (.iconst 1, 1) := by decide +kernel
theorem dX12_isPerson_14 : decode cX12_isPerson 14 = .ok (.goto 4, 3) := by decide +kernel
theorem dX12_isPerson_17 : decode cX12_isPerson 17 = .ok (.iconst 0, 1) := by decide +kernel
theorem dX12_isPerson_18 : decode cX12_isPerson 18 = .ok (.iconst 1, 1) := by decide +kernel
theorem dX12_isPerson_19 : decode cX12_isPerson 19 = .ok (.invokevirtual 214, 3) := by decide +kernel
theorem dX12_isPerson_22 : decode cX12_isPerson 22 = .ok (.ireturn, 1) := by decide +kernel
theorem dX12_isWork_0 : decode cX12_isWork 0 = .ok (.aload_n 0, 1) := by decide +kernel
theorem dX12_isWork_1 : decode cX12_isWork 1 = .ok (.iload_n 1, 1) := by decide +kernel
theorem dX12_isWork_2 : decode cX12_isWork 2 = .ok (.ifCond .lt 15, 3) := by decide +kernel
theorem dX12_isWork_5 : decode cX12_isWork 5 = .ok (.iload_n 1, 1) := by decide +kernel
theorem dX12_isWork_6 : decode cX12_isWork 6 = .ok (.aload_n 0, 1) := by decide +kernel
theorem dX12_isWork_7 : decode cX12_isWork 7 = .ok (.getfield 221, 3) := by decide +kernel
theorem dX12_isWork_10 : decode cX12_isWork 10 = .ok (.if_icmp .ge 7, 3) := by decide +kernel
theorem dX12_isWork_13 : decode cX12_isWork 13 = .ok (.iconst 1, 1) := by decide +kernel
theorem dX12_isWork_14 : decode cX12_isWork 14 = .ok (.goto 4, 3) := by decide +kernel
theorem dX12_isWork_17 : decode cX12_isWork 17 = .ok (.iconst 0, 1) := by decide +kernel
theorem dX12_isWork_18 : decode cX12_isWork 18 = .ok (.iconst 1, 1) := by decide +kernel
theorem dX12_isWork_19 : decode cX12_isWork 19 = .ok (.invokevirtual 214, 3) := by decide +kernel
theorem dX12_isWork_22 : decode cX12_isWork 22 = .ok (.ireturn, 1) := by decide +kernel
theorem dX12_isSociety_0 : decode cX12_isSociety 0 = .ok (.aload_n 0, 1) := by decide +kernel
theorem dX12_isSociety_1 : decode cX12_isSociety 1 = .ok (.iload_n 1, 1) := by decide +kernel
theorem dX12_isSociety_2 : decode cX12_isSociety 2 = .ok (.ifCond .lt 15, 3) := by decide +kernel
theorem dX12_isSociety_5 : decode cX12_isSociety 5 = .ok (.iload_n 1, 1) := by decide +kernel
theorem dX12_isSociety_6 : decode cX12_isSociety 6 = .ok (.aload_n 0, 1) := by decide +kernel
theorem dX12_isSociety_7 : decode cX12_isSociety 7 = .ok (.getfield 224, 3) := by decide +kernel
theorem dX12_isSociety_10 : decode cX12_isSociety 10 = .ok (.if_icmp .ge 7, 3) := by decide +kernel
theorem dX12_isSociety_13 : decode cX12_isSociety 13 = .ok (.iconst 1, 1) := by decide +kernel
theorem dX12_isSociety_14 : decode cX12_isSociety 14 = .ok (.goto 4, 3) := by decide +kernel
theorem dX12_isSociety_17 : decode cX12_isSociety 17 = .ok (.iconst 0, 1) := by decide +kernel
theorem dX12_isSociety_18 : decode cX12_isSociety 18 = .ok (.iconst 1, 1) := by decide +kernel
theorem dX12_isSociety_19 : decode cX12_isSociety 19 = .ok (.invokevirtual 214, 3) := by decide +kernel
theorem dX12_isSociety_22 : decode cX12_isSociety 22 = .ok (.ireturn, 1) := by decide +kernel
theorem dX12_isDay_0 : decode cX12_isDay 0 = .ok (.iload_n 0, 1) := by decide +kernel
theorem dX12_isDay_1 : decode cX12_isDay 1 = .ok (.ifCond .lt 13, 3) := by decide +kernel
theorem dX12_isDay_4 : decode cX12_isDay 4 = .ok (.iload_n 0, 1) := by decide +kernel
theorem dX12_isDay_5 : decode cX12_isDay 5 = .ok (.ldc 227, 2) := by decide +kernel
theorem dX12_isDay_7 : decode cX12_isDay 7 = .ok (.if_icmp .gt 7, 3) := by decide +kernel
theorem dX12_isDay_10 : decode cX12_isDay 10 = .ok (.iconst 1, 1) := by decide +kernel
theorem dX12_isDay_11 : decode cX12_isDay 11 = .ok (.goto 4, 3) := by decide +kernel
theorem dX12_isDay_14 : decode cX12_isDay 14 = .ok (.iconst 0, 1) := by decide +kernel
theorem dX12_isDay_15 : decode cX12_isDay 15 = .ok (.ireturn, 1) := by decide +kernel
theorem dX12_land_0 : decode cX12_land 0 = .ok (.aload_n 0, 1) := by decide +kernel
theorem dX12_land_1 : decode cX12_land 1 = .ok (.iconst 0, 1) := by decide +kernel
theorem dX12_land_2 : decode cX12_land 2 = .ok (.putfield 208, 3) := by decide +kernel
theorem dX12_land_5 : decode cX12_land 5 = .ok (.aload_n 0, 1) := by decide +kernel
theorem dX12_land_6 : decode cX12_land 6 = .ok (.getfield 211, 3) := by decide +kernel
theorem dX12_land_9 : decode cX12_land 9 = .ok (.bipush 6, 2) := by decide +kernel
theorem dX12_land_11 : decode cX12_land 11 = .ok (.if_icmp .ne 5, 3) := by decide +kernel
theorem dX12_land_14 : decode cX12_land 14 = .ok (.iconst (-1), 1) := by decide +kernel
theorem dX12_land_15 : decode cX12_land 15 = .ok (.ireturn, 1) := by decide +kernel
theorem dX12_land_16 : decode cX12_land 16 = .ok (.aload_n 0, 1) := by decide +kernel
theorem dX12_land_17 : decode cX12_land 17 = .ok (.dup, 1) := by decide +kernel
theorem dX12_land_18 : decode cX12_land 18 = .ok (.getfield 211, 3) := by decide +kernel
theorem dX12_land_21 : decode cX12_land 21 = .ok (.iconst 1, 1) := by decide +kernel
theorem dX12_land_22 : decode cX12_land 22 = .ok (.iadd, 1) := by decide +kernel
theorem dX12_land_23 : decode cX12_land 23 = .ok (.putfield 211, 3) := by decide +kernel
theorem dX12_land_26 : decode cX12_land 26 = .ok (.aload_n 0, 1) := by decide +kernel
theorem dX12_land_27 : decode cX12_land 27 = .ok (.getfield 211, 3) := by decide +kernel
theorem dX12_land_30 : decode cX12_land 30 = .ok (.iconst 1, 1) := by decide +kernel
theorem dX12_land_31 : decode cX12_land 31 = .ok (.isub, 1) := by decide +kernel
theorem dX12_land_32 : decode cX12_land 32 = .ok (.ireturn, 1) := by decide +kernel
theorem dX12_rate_0 : decode cX12_rate 0 = .ok (.aload_n 0, 1) := by decide +kernel
theorem dX12_rate_1 : decode cX12_rate 1 = .ok (.iconst 0, 1) := by decide +kernel
theorem dX12_rate_2 : decode cX12_rate 2 = .ok (.putfield 208, 3) := by decide +kernel
theorem dX12_rate_5 : decode cX12_rate 5 = .ok (.aload_n 0, 1) := by decide +kernel
theorem dX12_rate_6 : decode cX12_rate 6 = .ok (.iload_n 1, 1) := by decide +kernel
theorem dX12_rate_7 : decode cX12_rate 7 = .ok (.invokevirtual 228, 3) := by decide +kernel
theorem dX12_rate_10 : decode cX12_rate 10 = .ok (.ifCond .eq 30, 3) := by decide +kernel
theorem dX12_rate_13 : decode cX12_rate 13 = .ok (.aload_n 0, 1) := by decide +kernel
theorem dX12_rate_14 : decode cX12_rate 14 = .ok (.getfield 232, 3) := by decide +kernel
theorem dX12_rate_17 : decode cX12_rate 17 = .ok (.bipush 60, 2) := by decide +kernel
theorem dX12_rate_19 : decode cX12_rate 19 = .ok (.if_icmp .eq 21, 3) := by decide +kernel
theorem dX12_rate_22 : decode cX12_rate 22 = .ok (.iload_n 2, 1) := by decide +kernel
theorem dX12_rate_23 : decode cX12_rate 23 = .ok (.invokestatic 235, 3) := by decide +kernel
theorem dX12_rate_26 : decode cX12_rate 26 = .ok (.ifCond .eq 14, 3) := by decide +kernel
theorem dX12_rate_29 : decode cX12_rate 29 = .ok (.iload_n 3, 1) := by decide +kernel
theorem dX12_rate_30 : decode cX12_rate 30 = .ok (.iconst 1, 1) := by decide +kernel
theorem dX12_rate_31 : decode cX12_rate 31 = .ok (.if_icmp .lt 9, 3) := by decide +kernel
theorem dX12_rate_34 : decode cX12_rate 34 = .ok (.iload_n 3, 1) := by decide +kernel
theorem dX12_rate_35 : decode cX12_rate 35 = .ok (.ldc 238, 2) := by decide +kernel
theorem dX12_rate_37 : decode cX12_rate 37 = .ok (.if_icmp .le 5, 3) := by decide +kernel
theorem dX12_rate_40 : decode cX12_rate 40 = .ok (.iconst 0, 1) := by decide +kernel
theorem dX12_rate_41 : decode cX12_rate 41 = .ok (.ireturn, 1) := by decide +kernel
theorem dX12_rate_42 : decode cX12_rate 42 = .ok (.aload_n 0, 1) := by decide +kernel
theorem dX12_rate_43 : decode cX12_rate 43 = .ok (.getfield 47, 3) := by decide +kernel
theorem dX12_rate_46 : decode cX12_rate 46 = .ok (.aload_n 0, 1) := by decide +kernel
theorem dX12_rate_47 : decode cX12_rate 47 = .ok (.getfield 232, 3) := by decide +kernel
theorem dX12_rate_50 : decode cX12_rate 50 = .ok (.iload_n 1, 1) := by decide +kernel
theorem dX12_rate_51 : decode cX12_rate 51 = .ok (.iastore, 1) := by decide +kernel
theorem dX12_rate_52 : decode cX12_rate 52 = .ok (.aload_n 0, 1) := by decide +kernel
theorem dX12_rate_53 : decode cX12_rate 53 = .ok (.getfield 50, 3) := by decide +kernel
theorem dX12_rate_56 : decode cX12_rate 56 = .ok (.aload_n 0, 1) := by decide +kernel
theorem dX12_rate_57 : decode cX12_rate 57 = .ok (.getfield 232, 3) := by decide +kernel
theorem dX12_rate_60 : decode cX12_rate 60 = .ok (.iload_n 2, 1) := by decide +kernel
theorem dX12_rate_61 : decode cX12_rate 61 = .ok (.iastore, 1) := by decide +kernel
theorem dX12_rate_62 : decode cX12_rate 62 = .ok (.aload_n 0, 1) := by decide +kernel
theorem dX12_rate_63 : decode cX12_rate 63 = .ok (.getfield 53, 3) := by decide +kernel
theorem dX12_rate_66 : decode cX12_rate 66 = .ok (.aload_n 0, 1) := by decide +kernel
theorem dX12_rate_67 : decode cX12_rate 67 = .ok (.getfield 232, 3) := by decide +kernel
theorem dX12_rate_70 : decode cX12_rate 70 = .ok (.iload_n 3, 1) := by decide +kernel
theorem dX12_rate_71 : decode cX12_rate 71 = .ok (.iastore, 1) := by decide +kernel
theorem dX12_rate_72 : decode cX12_rate 72 = .ok (.aload_n 0, 1) := by decide +kernel
theorem dX12_rate_73 : decode cX12_rate 73 = .ok (.dup, 1) := by decide +kernel
theorem dX12_rate_74 : decode cX12_rate 74 = .ok (.getfield 232, 3) := by decide +kernel
theorem dX12_rate_77 : decode cX12_rate 77 = .ok (.iconst 1, 1) := by decide +kernel
theorem dX12_rate_78 : decode cX12_rate 78 = .ok (.iadd, 1) := by decide +kernel
theorem dX12_rate_79 : decode cX12_rate 79 = .ok (.putfield 232, 3) := by decide +kernel
theorem dX12_rate_82 : decode cX12_rate 82 = .ok (.iconst 1, 1) := by decide +kernel
theorem dX12_rate_83 : decode cX12_rate 83 = .ok (.ireturn, 1) := by decide +kernel
theorem dX12_person_0 : decode cX12_person 0 = .ok (.aload_n 0, 1) := by decide +kernel
theorem dX12_person_1 : decode cX12_person 1 = .ok (.iconst 0, 1) := by decide +kernel
theorem dX12_person_2 : decode cX12_person 2 = .ok (.putfield 208, 3) := by decide +kernel
theorem dX12_person_5 : decode cX12_person 5 = .ok (.aload_n 0, 1) := by decide +kernel
theorem dX12_person_6 : decode cX12_person 6 = .ok (.iload_n 1, 1) := by decide +kernel
theorem dX12_person_7 : decode cX12_person 7 = .ok (.invokevirtual 228, 3) := by decide +kernel
theorem dX12_person_10 : decode cX12_person 10 = .ok (.ifCond .ne 5, 3) := by decide +kernel
theorem dX12_person_13 : decode cX12_person 13 = .ok (.iconst 0, 1) := by decide +kernel
theorem dX12_person_14 : decode cX12_person 14 = .ok (.ireturn, 1) := by decide +kernel
theorem dX12_person_15 : decode cX12_person 15 = .ok (.aload_n 0, 1) := by decide +kernel
theorem dX12_person_16 : decode cX12_person 16 = .ok (.getfield 218, 3) := by decide +kernel
theorem dX12_person_19 : decode cX12_person 19 = .ok (.bipush 30, 2) := by decide +kernel
theorem dX12_person_21 : decode cX12_person 21 = .ok (.if_icmp .eq 12, 3) := by decide +kernel
theorem dX12_person_24 : decode cX12_person 24 = .ok (.iload_n 2, 1) := by decide +kernel
theorem dX12_person_25 : decode cX12_person 25 = .ok (.ifCond .lt 8, 3) := by decide +kernel
theorem dX12_person_28 : decode cX12_person 28 = .ok (.iload_n 2, 1) := by decide +kernel
theorem dX12_person_29 : decode cX12_person 29 = .ok (.iconst 2, 1) := by decide +kernel
theorem dX12_person_30 : decode cX12_person 30 = .ok (.if_icmp .le 5, 3) := by decide +kernel
theorem dX12_person_33 : decode cX12_person 33 = .ok (.iconst (-1), 1) := by decide +kernel
theorem dX12_person_34 : decode cX12_person 34 = .ok (.ireturn, 1) := by decide +kernel
theorem dX12_person_35 : decode cX12_person 35 = .ok (.aload_n 0, 1) := by decide +kernel
theorem dX12_person_36 : decode cX12_person 36 = .ok (.getfield 7, 3) := by decide +kernel
theorem dX12_person_39 : decode cX12_person 39 = .ok (.aload_n 0, 1) := by decide +kernel
theorem dX12_person_40 : decode cX12_person 40 = .ok (.getfield 218, 3) := by decide +kernel
theorem dX12_person_43 : decode cX12_person 43 = .ok (.iload_n 1, 1) := by decide +kernel
theorem dX12_person_44 : decode cX12_person 44 = .ok (.iastore, 1) := by decide +kernel
theorem dX12_person_45 : decode cX12_person 45 = .ok (.aload_n 0, 1) := by decide +kernel
theorem dX12_person_46 : decode cX12_person 46 = .ok (.getfield 13, 3) := by decide +kernel
theorem dX12_person_49 : decode cX12_person 49 = .ok (.aload_n 0, 1) := by decide +kernel
theorem dX12_person_50 : decode cX12_person 50 = .ok (.getfield 218, 3) := by decide +kernel
theorem dX12_person_53 : decode cX12_person 53 = .ok (.iload_n 2, 1) := by decide +kernel
theorem dX12_person_54 : decode cX12_person 54 = .ok (.iastore, 1) := by decide +kernel
theorem dX12_person_55 : decode cX12_person 55 = .ok (.aload_n 0, 1) := by decide +kernel
theorem dX12_person_56 : decode cX12_person 56 = .ok (.dup, 1) := by decide +kernel
theorem dX12_person_57 : decode cX12_person 57 = .ok (.getfield 218, 3) := by decide +kernel
theorem dX12_person_60 : decode cX12_person 60 = .ok (.iconst 1, 1) := by decide +kernel
theorem dX12_person_61 : decode cX12_person 61 = .ok (.iadd, 1) := by decide +kernel
theorem dX12_person_62 : decode cX12_person 62 = .ok (.putfield 218, 3) := by decide +kernel
theorem dX12_person_65 : decode cX12_person 65 = .ok (.aload_n 0, 1) := by decide +kernel
theorem dX12_person_66 : decode cX12_person 66 = .ok (.getfield 218, 3) := by decide +kernel
theorem dX12_person_69 : decode cX12_person 69 = .ok (.iconst 1, 1) := by decide +kernel
theorem dX12_person_70 : decode cX12_person 70 = .ok (.isub, 1) := by decide +kernel
theorem dX12_person_71 : decode cX12_person 71 = .ok (.ireturn, 1) := by decide +kernel
theorem dX12_work_0 : decode cX12_work 0 = .ok (.aload_n 0, 1) := by decide +kernel
theorem dX12_work_1 : decode cX12_work 1 = .ok (.iconst 0, 1) := by decide +kernel
theorem dX12_work_2 : decode cX12_work 2 = .ok (.putfield 208, 3) := by decide +kernel
theorem dX12_work_5 : decode cX12_work 5 = .ok (.aload_n 0, 1) := by decide +kernel
theorem dX12_work_6 : decode cX12_work 6 = .ok (.iload_n 1, 1) := by decide +kernel
theorem dX12_work_7 : decode cX12_work 7 = .ok (.invokevirtual 239, 3) := by decide +kernel
theorem dX12_work_10 : decode cX12_work 10 = .ok (.ifCond .ne 5, 3) := by decide +kernel
theorem dX12_work_13 : decode cX12_work 13 = .ok (.iconst 0, 1) := by decide +kernel
theorem dX12_work_14 : decode cX12_work 14 = .ok (.ireturn, 1) := by decide +kernel
theorem dX12_work_15 : decode cX12_work 15 = .ok (.iload_n 2, 1) := by decide +kernel
theorem dX12_work_16 : decode cX12_work 16 = .ok (.iconst 1, 1) := by decide +kernel
theorem dX12_work_17 : decode cX12_work 17 = .ok (.if_icmp .lt 36, 3) := by decide +kernel
theorem dX12_work_20 : decode cX12_work 20 = .ok (.iload_n 2, 1) := by decide +kernel
theorem dX12_work_21 : decode cX12_work 21 = .ok (.bipush 9, 2) := by decide +kernel
theorem dX12_work_23 : decode cX12_work 23 = .ok (.if_icmp .gt 30, 3) := by decide +kernel
theorem dX12_work_26 : decode cX12_work 26 = .ok (.iload_n 3, 1) := by decide +kernel
theorem dX12_work_27 : decode cX12_work 27 = .ok (.iconst 1, 1) := by decide +kernel
theorem dX12_work_28 : decode cX12_work 28 = .ok (.if_icmp .lt 25, 3) := by decide +kernel
theorem dX12_work_31 : decode cX12_work 31 = .ok (.iload_n 3, 1) := by decide +kernel
theorem dX12_work_32 : decode cX12_work 32 = .ok (.bipush 99, 2) := by decide +kernel
theorem dX12_work_34 : decode cX12_work 34 = .ok (.if_icmp .gt 19, 3) := by decide +kernel
theorem dX12_work_37 : decode cX12_work 37 = .ok (.iload 4, 2) := by decide +kernel
theorem dX12_work_39 : decode cX12_work 39 = .ok (.ifCond .lt 14, 3) := by decide +kernel
theorem dX12_work_42 : decode cX12_work 42 = .ok (.iload 4, 2) := by decide +kernel
theorem dX12_work_44 : decode cX12_work 44 = .ok (.ldc 242, 2) := by decide +kernel
theorem dX12_work_46 : decode cX12_work 46 = .ok (.if_icmp .gt 7, 3) := by decide +kernel
theorem dX12_work_49 : decode cX12_work 49 = .ok (.iconst 1, 1) := by decide +kernel
theorem dX12_work_50 : decode cX12_work 50 = .ok (.goto 4, 3) := by decide +kernel
theorem dX12_work_53 : decode cX12_work 53 = .ok (.iconst 0, 1) := by decide +kernel
theorem dX12_work_54 : decode cX12_work 54 = .ok (.istore 7, 2) := by decide +kernel
theorem dX12_work_56 : decode cX12_work 56 = .ok (.aload_n 0, 1) := by decide +kernel
theorem dX12_work_57 : decode cX12_work 57 = .ok (.getfield 221, 3) := by decide +kernel
theorem dX12_work_60 : decode cX12_work 60 = .ok (.bipush 30, 2) := by decide +kernel
theorem dX12_work_62 : decode cX12_work 62 = .ok (.if_icmp .eq 36, 3) := by decide +kernel
theorem dX12_work_65 : decode cX12_work 65 = .ok (.iload 7, 2) := by decide +kernel
theorem dX12_work_67 : decode cX12_work 67 = .ok (.ifCond .eq 31, 3) := by decide +kernel
theorem dX12_work_70 : decode cX12_work 70 = .ok (.iload 5, 2) := by decide +kernel
theorem dX12_work_72 : decode cX12_work 72 = .ok (.iconst 1, 1) := by decide +kernel
theorem dX12_work_73 : decode cX12_work 73 = .ok (.if_icmp .lt 25, 3) := by decide +kernel
theorem dX12_work_76 : decode cX12_work 76 = .ok (.iload 5, 2) := by decide +kernel
theorem dX12_work_78 : decode cX12_work 78 = .ok (.sipush 999, 3) := by decide +kernel
theorem dX12_work_81 : decode cX12_work 81 = .ok (.if_icmp .gt 17, 3) := by decide +kernel
theorem dX12_work_84 : decode cX12_work 84 = .ok (.iload 6, 2) := by decide +kernel
theorem dX12_work_86 : decode cX12_work 86 = .ok (.iconst 1, 1) := by decide +kernel
theorem dX12_work_87 : decode cX12_work 87 = .ok (.if_icmp .lt 11, 3) := by decide +kernel
theorem dX12_work_90 : decode cX12_work 90 = .ok (.iload 6, 2) := by decide +kernel
theorem dX12_work_92 : decode cX12_work 92 = .ok (.sipush 999, 3) := by decide +kernel
theorem dX12_work_95 : decode cX12_work 95 = .ok (.if_icmp .le 5, 3) := by decide +kernel
theorem dX12_work_98 : decode cX12_work 98 = .ok (.iconst (-1), 1) := by decide +kernel
theorem dX12_work_99 : decode cX12_work 99 = .ok (.ireturn, 1) := by decide +kernel
theorem dX12_work_100 : decode cX12_work 100 = .ok (.aload_n 0, 1) := by decide +kernel
theorem dX12_work_101 : decode cX12_work 101 = .ok (.getfield 16, 3) := by decide +kernel
theorem dX12_work_104 : decode cX12_work 104 = .ok (.aload_n 0, 1) := by decide +kernel
theorem dX12_work_105 : decode cX12_work 105 = .ok (.getfield 221, 3) := by decide +kernel
theorem dX12_work_108 : decode cX12_work 108 = .ok (.iconst 1, 1) := by decide +kernel
theorem dX12_work_109 : decode cX12_work 109 = .ok (.iastore, 1) := by decide +kernel
theorem dX12_work_110 : decode cX12_work 110 = .ok (.aload_n 0, 1) := by decide +kernel
theorem dX12_work_111 : decode cX12_work 111 = .ok (.getfield 19, 3) := by decide +kernel
theorem dX12_work_114 : decode cX12_work 114 = .ok (.iconst 3, 1) := by decide +kernel
theorem dX12_work_115 : decode cX12_work 115 = .ok (.aload_n 0, 1) := by decide +kernel
theorem dX12_work_116 : decode cX12_work 116 = .ok (.getfield 221, 3) := by decide +kernel
theorem dX12_work_119 : decode cX12_work 119 = .ok (.imul, 1) := by decide +kernel
theorem dX12_work_120 : decode cX12_work 120 = .ok (.iload_n 1, 1) := by decide +kernel
theorem dX12_work_121 : decode cX12_work 121 = .ok (.iastore, 1) := by decide +kernel
theorem dX12_work_122 : decode cX12_work 122 = .ok (.aload_n 0, 1) := by decide +kernel
theorem dX12_work_123 : decode cX12_work 123 = .ok (.getfield 22, 3) := by decide +kernel
theorem dX12_work_126 : decode cX12_work 126 = .ok (.iconst 3, 1) := by decide +kernel
theorem dX12_work_127 : decode cX12_work 127 = .ok (.aload_n 0, 1) := by decide +kernel
theorem dX12_work_128 : decode cX12_work 128 = .ok (.getfield 221, 3) := by decide +kernel
theorem dX12_work_131 : decode cX12_work 131 = .ok (.imul, 1) := by decide +kernel
theorem dX12_work_132 : decode cX12_work 132 = .ok (.iload_n 2, 1) := by decide +kernel
theorem dX12_work_133 : decode cX12_work 133 = .ok (.iastore, 1) := by decide +kernel
theorem dX12_work_134 : decode cX12_work 134 = .ok (.aload_n 0, 1) := by decide +kernel
theorem dX12_work_135 : decode cX12_work 135 = .ok (.getfield 25, 3) := by decide +kernel
theorem dX12_work_138 : decode cX12_work 138 = .ok (.aload_n 0, 1) := by decide +kernel
theorem dX12_work_139 : decode cX12_work 139 = .ok (.getfield 221, 3) := by decide +kernel
theorem dX12_work_142 : decode cX12_work 142 = .ok (.iload_n 3, 1) := by decide +kernel
theorem dX12_work_143 : decode cX12_work 143 = .ok (.iastore, 1) := by decide +kernel
theorem dX12_work_144 : decode cX12_work 144 = .ok (.aload_n 0, 1) := by decide +kernel
theorem dX12_work_145 : decode cX12_work 145 = .ok (.getfield 28, 3) := by decide +kernel
theorem dX12_work_148 : decode cX12_work 148 = .ok (.aload_n 0, 1) := by decide +kernel
theorem dX12_work_149 : decode cX12_work 149 = .ok (.getfield 221, 3) := by decide +kernel
theorem dX12_work_152 : decode cX12_work 152 = .ok (.iload 4, 2) := by decide +kernel
theorem dX12_work_154 : decode cX12_work 154 = .ok (.iastore, 1) := by decide +kernel
theorem dX12_work_155 : decode cX12_work 155 = .ok (.aload_n 0, 1) := by decide +kernel
theorem dX12_work_156 : decode cX12_work 156 = .ok (.getfield 31, 3) := by decide +kernel
theorem dX12_work_159 : decode cX12_work 159 = .ok (.aload_n 0, 1) := by decide +kernel
theorem dX12_work_160 : decode cX12_work 160 = .ok (.getfield 221, 3) := by decide +kernel
theorem dX12_work_163 : decode cX12_work 163 = .ok (.iload 5, 2) := by decide +kernel
theorem dX12_work_165 : decode cX12_work 165 = .ok (.iastore, 1) := by decide +kernel
theorem dX12_work_166 : decode cX12_work 166 = .ok (.aload_n 0, 1) := by decide +kernel
theorem dX12_work_167 : decode cX12_work 167 = .ok (.getfield 34, 3) := by decide +kernel
theorem dX12_work_170 : decode cX12_work 170 = .ok (.aload_n 0, 1) := by decide +kernel
theorem dX12_work_171 : decode cX12_work 171 = .ok (.getfield 221, 3) := by decide +kernel
theorem dX12_work_174 : decode cX12_work 174 = .ok (.iload 6, 2) := by decide +kernel
theorem dX12_work_176 : decode cX12_work 176 = .ok (.iastore, 1) := by decide +kernel
theorem dX12_work_177 : decode cX12_work 177 = .ok (.aload_n 0, 1) := by decide +kernel
theorem dX12_work_178 : decode cX12_work 178 = .ok (.getfield 37, 3) := by decide +kernel
theorem dX12_work_181 : decode cX12_work 181 = .ok (.aload_n 0, 1) := by decide +kernel
theorem dX12_work_182 : decode cX12_work 182 = .ok (.getfield 221, 3) := by decide +kernel
theorem dX12_work_185 : decode cX12_work 185 = .ok (.iconst 0, 1) := by decide +kernel
theorem dX12_work_186 : decode cX12_work 186 = .ok (.bastore, 1) := by decide +kernel
theorem dX12_work_187 : decode cX12_work 187 = .ok (.aload_n 0, 1) := by decide +kernel
theorem dX12_work_188 : decode cX12_work 188 = .ok (.dup, 1) := by decide +kernel
theorem dX12_work_189 : decode cX12_work 189 = .ok (.getfield 221, 3) := by decide +kernel
theorem dX12_work_192 : decode cX12_work 192 = .ok (.iconst 1, 1) := by decide +kernel
theorem dX12_work_193 : decode cX12_work 193 = .ok (.iadd, 1) := by decide +kernel
theorem dX12_work_194 : decode cX12_work 194 = .ok (.putfield 221, 3) := by decide +kernel
theorem dX12_work_197 : decode cX12_work 197 = .ok (.aload_n 0, 1) := by decide +kernel
theorem dX12_work_198 : decode cX12_work 198 = .ok (.getfield 221, 3) := by decide +kernel
theorem dX12_work_201 : decode cX12_work 201 = .ok (.iconst 1, 1) := by decide +kernel
theorem dX12_work_202 : decode cX12_work 202 = .ok (.isub, 1) := by decide +kernel
theorem dX12_work_203 : decode cX12_work 203 = .ok (.ireturn, 1) := by decide +kernel
theorem dX12_isBy_0 : decode cX12_isBy 0 = .ok (.iconst 0, 1) := by decide +kernel
theorem dX12_isBy_1 : decode cX12_isBy 1 = .ok (.istore_n 3, 1) := by decide +kernel
theorem dX12_isBy_2 : decode cX12_isBy 2 = .ok (.iconst 0, 1) := by decide +kernel
theorem dX12_isBy_3 : decode cX12_isBy 3 = .ok (.istore 4, 2) := by decide +kernel
theorem dX12_isBy_5 : decode cX12_isBy 5 = .ok (.iload 4, 2) := by decide +kernel
theorem dX12_isBy_7 : decode cX12_isBy 7 = .ok (.aload_n 0, 1) := by decide +kernel
theorem dX12_isBy_8 : decode cX12_isBy 8 = .ok (.getfield 16, 3) := by decide +kernel
theorem dX12_isBy_11 : decode cX12_isBy 11 = .ok (.iload_n 1, 1) := by decide +kernel
theorem dX12_isBy_12 : decode cX12_isBy 12 = .ok (.iaload, 1) := by decide +kernel
theorem dX12_isBy_13 : decode cX12_isBy 13 = .ok (.if_icmp .ge 34, 3) := by decide +kernel
theorem dX12_isBy_16 : decode cX12_isBy 16 = .ok (.iload_n 3, 1) := by decide +kernel
theorem dX12_isBy_17 : decode cX12_isBy 17 = .ok (.ifCond .ne 18, 3) := by decide +kernel
theorem dX12_isBy_20 : decode cX12_isBy 20 = .ok (.aload_n 0, 1) := by decide +kernel
theorem dX12_isBy_21 : decode cX12_isBy 21 = .ok (.getfield 19, 3) := by decide +kernel
theorem dX12_isBy_24 : decode cX12_isBy 24 = .ok (.iconst 3, 1) := by decide +kernel
theorem dX12_isBy_25 : decode cX12_isBy 25 = .ok (.iload_n 1, 1) := by decide +kernel
theorem dX12_isBy_26 : decode cX12_isBy 26 = .ok (.imul, 1) := by decide +kernel
theorem dX12_isBy_27 : decode cX12_isBy 27 = .ok (.iload 4, 2) := by decide +kernel
theorem dX12_isBy_29 : decode cX12_isBy 29 = .ok (.iadd, 1) := by decide +kernel
theorem dX12_isBy_30 : decode cX12_isBy 30 = .ok (.iaload, 1) := by decide +kernel
theorem dX12_isBy_31 : decode cX12_isBy 31 = .ok (.iload_n 2, 1) := by decide +kernel
theorem dX12_isBy_32 : decode cX12_isBy 32 = .ok (.if_icmp .ne 7, 3) := by decide +kernel
theorem dX12_isBy_35 : decode cX12_isBy 35 = .ok (.iconst 1, 1) := by decide +kernel
theorem dX12_isBy_36 : decode cX12_isBy 36 = .ok (.goto 4, 3) := by decide +kernel
theorem dX12_isBy_39 : decode cX12_isBy 39 = .ok (.iconst 0, 1) := by decide +kernel
theorem dX12_isBy_40 : decode cX12_isBy 40 = .ok (.istore_n 3, 1) := by decide +kernel
theorem dX12_isBy_41 : decode cX12_isBy 41 = .ok (.iinc 4 1, 3) := by decide +kernel
theorem dX12_isBy_44 : decode cX12_isBy 44 = .ok (.goto (-39), 3) := by decide +kernel
theorem dX12_isBy_47 : decode cX12_isBy 47 = .ok (.iload_n 3, 1) := by decide +kernel
theorem dX12_isBy_48 : decode cX12_isBy 48 = .ok (.ireturn, 1) := by decide +kernel
theorem dX12_joins_0 : decode cX12_joins 0 = .ok (.aload_n 0, 1) := by decide +kernel
theorem dX12_joins_1 : decode cX12_joins 1 = .ok (.iconst 0, 1) := by decide +kernel
theorem dX12_joins_2 : decode cX12_joins 2 = .ok (.putfield 208, 3) := by decide +kernel
theorem dX12_joins_5 : decode cX12_joins 5 = .ok (.aload_n 0, 1) := by decide +kernel
theorem dX12_joins_6 : decode cX12_joins 6 = .ok (.iload_n 1, 1) := by decide +kernel
theorem dX12_joins_7 : decode cX12_joins 7 = .ok (.invokevirtual 243, 3) := by decide +kernel
theorem dX12_joins_10 : decode cX12_joins 10 = .ok (.ifCond .eq 11, 3) := by decide +kernel
theorem dX12_joins_13 : decode cX12_joins 13 = .ok (.aload_n 0, 1) := by decide +kernel
theorem dX12_joins_14 : decode cX12_joins 14 = .ok (.iload_n 2, 1) := by decide +kernel
theorem dX12_joins_15 : decode cX12_joins 15 = .ok (.invokevirtual 239, 3) := by decide +kernel
theorem dX12_joins_18 : decode cX12_joins 18 = .ok (.ifCond .ne 5, 3) := by decide +kernel
theorem dX12_joins_21 : decode cX12_joins 21 = .ok (.iconst 0, 1) := by decide +kernel
theorem dX12_joins_22 : decode cX12_joins 22 = .ok (.ireturn, 1) := by decide +kernel
theorem dX12_joins_23 : decode cX12_joins 23 = .ok (.aload_n 0, 1) := by decide +kernel
theorem dX12_joins_24 : decode cX12_joins 24 = .ok (.getfield 16, 3) := by decide +kernel
theorem dX12_joins_27 : decode cX12_joins 27 = .ok (.iload_n 1, 1) := by decide +kernel
theorem dX12_joins_28 : decode cX12_joins 28 = .ok (.iaload, 1) := by decide +kernel
theorem dX12_joins_29 : decode cX12_joins 29 = .ok (.iconst 3, 1) := by decide +kernel
theorem dX12_joins_30 : decode cX12_joins 30 = .ok (.if_icmp .eq 32, 3) := by decide +kernel
theorem dX12_joins_33 : decode cX12_joins 33 = .ok (.aload_n 0, 1) := by decide +kernel
theorem dX12_joins_34 : decode cX12_joins 34 = .ok (.iload_n 1, 1) := by decide +kernel
theorem dX12_joins_35 : decode cX12_joins 35 = .ok (.iload_n 2, 1) := by decide +kernel
theorem dX12_joins_36 : decode cX12_joins 36 = .ok (.invokevirtual 246, 3) := by decide +kernel
theorem dX12_joins_39 : decode cX12_joins 39 = .ok (.ifCond .ne 23, 3) := by decide +kernel
theorem dX12_joins_42 : decode cX12_joins 42 = .ok (.iload_n 3, 1) := by decide +kernel
theorem dX12_joins_43 : decode cX12_joins 43 = .ok (.iconst 1, 1) := by decide +kernel
theorem dX12_joins_44 : decode cX12_joins 44 = .ok (.if_icmp .lt 18, 3) := by decide +kernel
theorem dX12_joins_47 : decode cX12_joins 47 = .ok (.iload_n 3, 1) := by decide +kernel
theorem dX12_joins_48 : decode cX12_joins 48 = .ok (.bipush 9, 2) := by decide +kernel
theorem dX12_joins_50 : decode cX12_joins 50 = .ok (.if_icmp .gt 12, 3) := by decide +kernel
theorem dX12_joins_53 : decode cX12_joins 53 = .ok (.aload_n 0, 1) := by decide +kernel
theorem dX12_joins_54 : decode cX12_joins 54 = .ok (.getfield 37, 3) := by decide +kernel
theorem dX12_joins_57 : decode cX12_joins 57 = .ok (.iload_n 1, 1) := by decide +kernel
theorem dX12_joins_58 : decode cX12_joins 58 = .ok (.baload, 1) := by decide +kernel
theorem dX12_joins_59 : decode cX12_joins 59 = .ok (.ifCond .eq 5, 3) := by decide +kernel
theorem dX12_joins_62 : decode cX12_joins 62 = .ok (.iconst (-1), 1) := by decide +kernel
theorem dX12_joins_63 : decode cX12_joins 63 = .ok (.ireturn, 1) := by decide +kernel
theorem dX12_joins_64 : decode cX12_joins 64 = .ok (.aload_n 0, 1) := by decide +kernel
theorem dX12_joins_65 : decode cX12_joins 65 = .ok (.getfield 19, 3) := by decide +kernel
theorem dX12_joins_68 : decode cX12_joins 68 = .ok (.iconst 3, 1) := by decide +kernel
theorem dX12_joins_69 : decode cX12_joins 69 = .ok (.iload_n 1, 1) := by decide +kernel
theorem dX12_joins_70 : decode cX12_joins 70 = .ok (.imul, 1) := by decide +kernel
theorem dX12_joins_71 : decode cX12_joins 71 = .ok (.aload_n 0, 1) := by decide +kernel
theorem dX12_joins_72 : decode cX12_joins 72 = .ok (.getfield 16, 3) := by decide +kernel
theorem dX12_joins_75 : decode cX12_joins 75 = .ok (.iload_n 1, 1) := by decide +kernel
theorem dX12_joins_76 : decode cX12_joins 76 = .ok (.iaload, 1) := by decide +kernel
theorem dX12_joins_77 : decode cX12_joins 77 = .ok (.iadd, 1) := by decide +kernel
theorem dX12_joins_78 : decode cX12_joins 78 = .ok (.iload_n 2, 1) := by decide +kernel
theorem dX12_joins_79 : decode cX12_joins 79 = .ok (.iastore, 1) := by decide +kernel
theorem dX12_joins_80 : decode cX12_joins 80 = .ok (.aload_n 0, 1) := by decide +kernel
theorem dX12_joins_81 : decode cX12_joins 81 = .ok (.getfield 22, 3) := by decide +kernel
theorem dX12_joins_84 : decode cX12_joins 84 = .ok (.iconst 3, 1) := by decide +kernel
theorem dX12_joins_85 : decode cX12_joins 85 = .ok (.iload_n 1, 1) := by decide +kernel
theorem dX12_joins_86 : decode cX12_joins 86 = .ok (.imul, 1) := by decide +kernel
theorem dX12_joins_87 : decode cX12_joins 87 = .ok (.aload_n 0, 1) := by decide +kernel
theorem dX12_joins_88 : decode cX12_joins 88 = .ok (.getfield 16, 3) := by decide +kernel
theorem dX12_joins_91 : decode cX12_joins 91 = .ok (.iload_n 1, 1) := by decide +kernel
theorem dX12_joins_92 : decode cX12_joins 92 = .ok (.iaload, 1) := by decide +kernel
theorem dX12_joins_93 : decode cX12_joins 93 = .ok (.iadd, 1) := by decide +kernel
theorem dX12_joins_94 : decode cX12_joins 94 = .ok (.iload_n 3, 1) := by decide +kernel
theorem dX12_joins_95 : decode cX12_joins 95 = .ok (.iastore, 1) := by decide +kernel
theorem dX12_joins_96 : decode cX12_joins 96 = .ok (.aload_n 0, 1) := by decide +kernel
theorem dX12_joins_97 : decode cX12_joins 97 = .ok (.getfield 16, 3) := by decide +kernel
theorem dX12_joins_100 : decode cX12_joins 100 = .ok (.iload_n 1, 1) := by decide +kernel
theorem dX12_joins_101 : decode cX12_joins 101 = .ok (.dup2, 1) := by decide +kernel
theorem dX12_joins_102 : decode cX12_joins 102 = .ok (.iaload, 1) := by decide +kernel
theorem dX12_joins_103 : decode cX12_joins 103 = .ok (.iconst 1, 1) := by decide +kernel
theorem dX12_joins_104 : decode cX12_joins 104 = .ok (.iadd, 1) := by decide +kernel
theorem dX12_joins_105 : decode cX12_joins 105 = .ok (.iastore, 1) := by decide +kernel
theorem dX12_joins_106 : decode cX12_joins 106 = .ok (.aload_n 0, 1) := by decide +kernel
theorem dX12_joins_107 : decode cX12_joins 107 = .ok (.getfield 16, 3) := by decide +kernel
theorem dX12_joins_110 : decode cX12_joins 110 = .ok (.iload_n 1, 1) := by decide +kernel
theorem dX12_joins_111 : decode cX12_joins 111 = .ok (.iaload, 1) := by decide +kernel
theorem dX12_joins_112 : decode cX12_joins 112 = .ok (.ireturn, 1) := by decide +kernel
theorem dX12_society_0 : decode cX12_society 0 = .ok (.aload_n 0, 1) := by decide +kernel
theorem dX12_society_1 : decode cX12_society 1 = .ok (.iconst 0, 1) := by decide +kernel
theorem dX12_society_2 : decode cX12_society 2 = .ok (.putfield 208, 3) := by decide +kernel
theorem dX12_society_5 : decode cX12_society 5 = .ok (.aload_n 0, 1) := by decide +kernel
theorem dX12_society_6 : decode cX12_society 6 = .ok (.iload_n 1, 1) := by decide +kernel
theorem dX12_society_7 : decode cX12_society 7 = .ok (.invokevirtual 228, 3) := by decide +kernel
theorem dX12_society_10 : decode cX12_society 10 = .ok (.ifCond .ne 5, 3) := by decide +kernel
theorem dX12_society_13 : decode cX12_society 13 = .ok (.iconst 0, 1) := by decide +kernel
theorem dX12_society_14 : decode cX12_society 14 = .ok (.ireturn, 1) := by decide +kernel
theorem dX12_society_15 : decode cX12_society 15 = .ok (.aload_n 0, 1) := by decide +kernel
theorem dX12_society_16 : decode cX12_society 16 = .ok (.getfield 224, 3) := by decide +kernel
theorem dX12_society_19 : decode cX12_society 19 = .ok (.iconst 5, 1) := by decide +kernel
theorem dX12_society_20 : decode cX12_society 20 = .ok (.if_icmp .eq 14, 3) := by decide +kernel
theorem dX12_society_23 : decode cX12_society 23 = .ok (.iload_n 2, 1) := by decide +kernel
theorem dX12_society_24 : decode cX12_society 24 = .ok (.ifCond .lt 10, 3) := by decide +kernel
theorem dX12_society_27 : decode cX12_society 27 = .ok (.iload_n 2, 1) := by decide +kernel
theorem dX12_society_28 : decode cX12_society 28 = .ok (.sipush 300, 3) := by decide +kernel
theorem dX12_society_31 : decode cX12_society 31 = .ok (.if_icmp .le 5, 3) := by decide +kernel
theorem dX12_society_34 : decode cX12_society 34 = .ok (.iconst (-1), 1) := by decide +kernel
theorem dX12_society_35 : decode cX12_society 35 = .ok (.ireturn, 1) := by decide +kernel
theorem dX12_society_36 : decode cX12_society 36 = .ok (.aload_n 0, 1) := by decide +kernel
theorem dX12_society_37 : decode cX12_society 37 = .ok (.getfield 41, 3) := by decide +kernel
theorem dX12_society_40 : decode cX12_society 40 = .ok (.aload_n 0, 1) := by decide +kernel
theorem dX12_society_41 : decode cX12_society 41 = .ok (.getfield 224, 3) := by decide +kernel
theorem dX12_society_44 : decode cX12_society 44 = .ok (.iload_n 1, 1) := by decide +kernel
theorem dX12_society_45 : decode cX12_society 45 = .ok (.iastore, 1) := by decide +kernel
theorem dX12_society_46 : decode cX12_society 46 = .ok (.aload_n 0, 1) := by decide +kernel
theorem dX12_society_47 : decode cX12_society 47 = .ok (.getfield 44, 3) := by decide +kernel
theorem dX12_society_50 : decode cX12_society 50 = .ok (.aload_n 0, 1) := by decide +kernel
theorem dX12_society_51 : decode cX12_society 51 = .ok (.getfield 224, 3) := by decide +kernel
theorem dX12_society_54 : decode cX12_society 54 = .ok (.iload_n 2, 1) := by decide +kernel
theorem dX12_society_55 : decode cX12_society 55 = .ok (.iastore, 1) := by decide +kernel
theorem dX12_society_56 : decode cX12_society 56 = .ok (.aload_n 0, 1) := by decide +kernel
theorem dX12_society_57 : decode cX12_society 57 = .ok (.dup, 1) := by decide +kernel
theorem dX12_society_58 : decode cX12_society 58 = .ok (.getfield 224, 3) := by decide +kernel
theorem dX12_society_61 : decode cX12_society 61 = .ok (.iconst 1, 1) := by decide +kernel
theorem dX12_society_62 : decode cX12_society 62 = .ok (.iadd, 1) := by decide +kernel
theorem dX12_society_63 : decode cX12_society 63 = .ok (.putfield 224, 3) := by decide +kernel
theorem dX12_society_66 : decode cX12_society 66 = .ok (.aload_n 0, 1) := by decide +kernel
theorem dX12_society_67 : decode cX12_society 67 = .ok (.getfield 224, 3) := by decide +kernel
theorem dX12_society_70 : decode cX12_society 70 = .ok (.iconst 1, 1) := by decide +kernel
theorem dX12_society_71 : decode cX12_society 71 = .ok (.isub, 1) := by decide +kernel
theorem dX12_society_72 : decode cX12_society 72 = .ok (.ireturn, 1) := by decide +kernel
theorem dX12_evenings_0 : decode cX12_evenings 0 = .ok (.aload_n 0, 1) := by decide +kernel
theorem dX12_evenings_1 : decode cX12_evenings 1 = .ok (.iconst 0, 1) := by decide +kernel
theorem dX12_evenings_2 : decode cX12_evenings 2 = .ok (.putfield 208, 3) := by decide +kernel
theorem dX12_evenings_5 : decode cX12_evenings 5 = .ok (.aload_n 0, 1) := by decide +kernel
theorem dX12_evenings_6 : decode cX12_evenings 6 = .ok (.iload_n 1, 1) := by decide +kernel
theorem dX12_evenings_7 : decode cX12_evenings 7 = .ok (.ifCond .lt 26, 3) := by decide +kernel
theorem dX12_evenings_10 : decode cX12_evenings 10 = .ok (.iload_n 1, 1) := by decide +kernel
theorem dX12_evenings_11 : decode cX12_evenings 11 = .ok (.sipush 999, 3) := by decide +kernel
theorem dX12_evenings_14 : decode cX12_evenings 14 = .ok (.if_icmp .gt 19, 3) := by decide +kernel
theorem dX12_evenings_17 : decode cX12_evenings 17 = .ok (.iload_n 1, 1) := by decide +kernel
theorem dX12_evenings_18 : decode cX12_evenings 18 = .ok (.sipush 999, 3) := by decide +kernel
theorem dX12_evenings_21 : decode cX12_evenings 21 = .ok (.aload_n 0, 1) := by decide +kernel
theorem dX12_evenings_22 : decode cX12_evenings 22 = .ok (.getfield 250, 3) := by decide +kernel
theorem dX12_evenings_25 : decode cX12_evenings 25 = .ok (.isub, 1) := by decide +kernel
theorem dX12_evenings_26 : decode cX12_evenings 26 = .ok (.if_icmp .gt 7, 3) := by decide +kernel
theorem dX12_evenings_29 : decode cX12_evenings 29 = .ok (.iconst 1, 1) := by decide +kernel
theorem dX12_evenings_30 : decode cX12_evenings 30 = .ok (.goto 4, 3) := by decide +kernel
theorem dX12_evenings_33 : decode cX12_evenings 33 = .ok (.iconst 0, 1) := by decide +kernel
theorem dX12_evenings_34 : decode cX12_evenings 34 = .ok (.iconst 1, 1) := by decide +kernel
theorem dX12_evenings_35 : decode cX12_evenings 35 = .ok (.invokevirtual 214, 3) := by decide +kernel
theorem dX12_evenings_38 : decode cX12_evenings 38 = .ok (.ifCond .ne 5, 3) := by decide +kernel
theorem dX12_evenings_41 : decode cX12_evenings 41 = .ok (.iconst 0, 1) := by decide +kernel
theorem dX12_evenings_42 : decode cX12_evenings 42 = .ok (.ireturn, 1) := by decide +kernel
theorem dX12_evenings_43 : decode cX12_evenings 43 = .ok (.aload_n 0, 1) := by decide +kernel
theorem dX12_evenings_44 : decode cX12_evenings 44 = .ok (.dup, 1) := by decide +kernel
theorem dX12_evenings_45 : decode cX12_evenings 45 = .ok (.getfield 250, 3) := by decide +kernel
theorem dX12_evenings_48 : decode cX12_evenings 48 = .ok (.iload_n 1, 1) := by decide +kernel
theorem dX12_evenings_49 : decode cX12_evenings 49 = .ok (.iadd, 1) := by decide +kernel
theorem dX12_evenings_50 : decode cX12_evenings 50 = .ok (.putfield 250, 3) := by decide +kernel
theorem dX12_evenings_53 : decode cX12_evenings 53 = .ok (.aload_n 0, 1) := by decide +kernel
theorem dX12_evenings_54 : decode cX12_evenings 54 = .ok (.getfield 250, 3) := by decide +kernel
theorem dX12_evenings_57 : decode cX12_evenings 57 = .ok (.ireturn, 1) := by decide +kernel
theorem dX12_tells_0 : decode cX12_tells 0 = .ok (.aload_n 0, 1) := by decide +kernel
theorem dX12_tells_1 : decode cX12_tells 1 = .ok (.getfield 56, 3) := by decide +kernel
theorem dX12_tells_4 : decode cX12_tells 4 = .ok (.aload_n 0, 1) := by decide +kernel
theorem dX12_tells_5 : decode cX12_tells 5 = .ok (.getfield 253, 3) := by decide +kernel
theorem dX12_tells_8 : decode cX12_tells 8 = .ok (.iload_n 1, 1) := by decide +kernel
theorem dX12_tells_9 : decode cX12_tells 9 = .ok (.iastore, 1) := by decide +kernel
theorem dX12_tells_10 : decode cX12_tells 10 = .ok (.aload_n 0, 1) := by decide +kernel
theorem dX12_tells_11 : decode cX12_tells 11 = .ok (.getfield 59, 3) := by decide +kernel
theorem dX12_tells_14 : decode cX12_tells 14 = .ok (.aload_n 0, 1) := by decide +kernel
theorem dX12_tells_15 : decode cX12_tells 15 = .ok (.getfield 253, 3) := by decide +kernel
theorem dX12_tells_18 : decode cX12_tells 18 = .ok (.iconst (-1), 1) := by decide +kernel
theorem dX12_tells_19 : decode cX12_tells 19 = .ok (.iastore, 1) := by decide +kernel
theorem dX12_tells_20 : decode cX12_tells 20 = .ok (.aload_n 0, 1) := by decide +kernel
theorem dX12_tells_21 : decode cX12_tells 21 = .ok (.getfield 62, 3) := by decide +kernel
theorem dX12_tells_24 : decode cX12_tells 24 = .ok (.aload_n 0, 1) := by decide +kernel
theorem dX12_tells_25 : decode cX12_tells 25 = .ok (.getfield 253, 3) := by decide +kernel
theorem dX12_tells_28 : decode cX12_tells 28 = .ok (.iload_n 2, 1) := by decide +kernel
theorem dX12_tells_29 : decode cX12_tells 29 = .ok (.iastore, 1) := by decide +kernel
theorem dX12_tells_30 : decode cX12_tells 30 = .ok (.aload_n 0, 1) := by decide +kernel
theorem dX12_tells_31 : decode cX12_tells 31 = .ok (.getfield 65, 3) := by decide +kernel
theorem dX12_tells_34 : decode cX12_tells 34 = .ok (.aload_n 0, 1) := by decide +kernel
theorem dX12_tells_35 : decode cX12_tells 35 = .ok (.getfield 253, 3) := by decide +kernel
theorem dX12_tells_38 : decode cX12_tells 38 = .ok (.iload_n 3, 1) := by decide +kernel
theorem dX12_tells_39 : decode cX12_tells 39 = .ok (.iastore, 1) := by decide +kernel
theorem dX12_tells_40 : decode cX12_tells 40 = .ok (.aload_n 0, 1) := by decide +kernel
theorem dX12_tells_41 : decode cX12_tells 41 = .ok (.getfield 68, 3) := by decide +kernel
theorem dX12_tells_44 : decode cX12_tells 44 = .ok (.aload_n 0, 1) := by decide +kernel
theorem dX12_tells_45 : decode cX12_tells 45 = .ok (.getfield 253, 3) := by decide +kernel
theorem dX12_tells_48 : decode cX12_tells 48 = .ok (.iload 4, 2) := by decide +kernel
theorem dX12_tells_50 : decode cX12_tells 50 = .ok (.iastore, 1) := by decide +kernel
theorem dX12_tells_51 : decode cX12_tells 51 = .ok (.aload_n 0, 1) := by decide +kernel
theorem dX12_tells_52 : decode cX12_tells 52 = .ok (.getfield 83, 3) := by decide +kernel
theorem dX12_tells_55 : decode cX12_tells 55 = .ok (.aload_n 0, 1) := by decide +kernel
theorem dX12_tells_56 : decode cX12_tells 56 = .ok (.getfield 253, 3) := by decide +kernel
theorem dX12_tells_59 : decode cX12_tells 59 = .ok (.aload_n 0, 1) := by decide +kernel
theorem dX12_tells_60 : decode cX12_tells 60 = .ok (.getfield 250, 3) := by decide +kernel
theorem dX12_tells_63 : decode cX12_tells 63 = .ok (.iastore, 1) := by decide +kernel
theorem dX12_tells_64 : decode cX12_tells 64 = .ok (.aload_n 0, 1) := by decide +kernel
theorem dX12_tells_65 : decode cX12_tells 65 = .ok (.getfield 86, 3) := by decide +kernel
theorem dX12_tells_68 : decode cX12_tells 68 = .ok (.aload_n 0, 1) := by decide +kernel
theorem dX12_tells_69 : decode cX12_tells 69 = .ok (.getfield 253, 3) := by decide +kernel
theorem dX12_tells_72 : decode cX12_tells 72 = .ok (.iconst (-1), 1) := by decide +kernel
theorem dX12_tells_73 : decode cX12_tells 73 = .ok (.iastore, 1) := by decide +kernel
theorem dX12_tells_74 : decode cX12_tells 74 = .ok (.aload_n 0, 1) := by decide +kernel
theorem dX12_tells_75 : decode cX12_tells 75 = .ok (.dup, 1) := by decide +kernel
theorem dX12_tells_76 : decode cX12_tells 76 = .ok (.getfield 253, 3) := by decide +kernel
theorem dX12_tells_79 : decode cX12_tells 79 = .ok (.iconst 1, 1) := by decide +kernel
theorem dX12_tells_80 : decode cX12_tells 80 = .ok (.iadd, 1) := by decide +kernel
theorem dX12_tells_81 : decode cX12_tells 81 = .ok (.putfield 253, 3) := by decide +kernel
theorem dX12_tells_84 : decode cX12_tells 84 = .ok (.aload_n 0, 1) := by decide +kernel
theorem dX12_tells_85 : decode cX12_tells 85 = .ok (.getfield 253, 3) := by decide +kernel
theorem dX12_tells_88 : decode cX12_tells 88 = .ok (.iconst 1, 1) := by decide +kernel
theorem dX12_tells_89 : decode cX12_tells 89 = .ok (.isub, 1) := by decide +kernel
theorem dX12_tells_90 : decode cX12_tells 90 = .ok (.ireturn, 1) := by decide +kernel
theorem dX12_isKnown_0 : decode cX12_isKnown 0 = .ok (.aload_n 0, 1) := by decide +kernel
theorem dX12_isKnown_1 : decode cX12_isKnown 1 = .ok (.getfield 83, 3) := by decide +kernel
theorem dX12_isKnown_4 : decode cX12_isKnown 4 = .ok (.iload_n 1, 1) := by decide +kernel
theorem dX12_isKnown_5 : decode cX12_isKnown 5 = .ok (.iaload, 1) := by decide +kernel
theorem dX12_isKnown_6 : decode cX12_isKnown 6 = .ok (.iload_n 2, 1) := by decide +kernel
theorem dX12_isKnown_7 : decode cX12_isKnown 7 = .ok (.if_icmp .gt 27, 3) := by decide +kernel
theorem dX12_isKnown_10 : decode cX12_isKnown 10 = .ok (.aload_n 0, 1) := by decide +kernel
theorem dX12_isKnown_11 : decode cX12_isKnown 11 = .ok (.getfield 86, 3) := by decide +kernel
theorem dX12_isKnown_14 : decode cX12_isKnown 14 = .ok (.iload_n 1, 1) := by decide +kernel
theorem dX12_isKnown_15 : decode cX12_isKnown 15 = .ok (.iaload, 1) := by decide +kernel
theorem dX12_isKnown_16 : decode cX12_isKnown 16 = .ok (.iconst (-1), 1) := by decide +kernel
theorem dX12_isKnown_17 : decode cX12_isKnown 17 = .ok (.if_icmp .eq 13, 3) := by decide +kernel
theorem dX12_isKnown_20 : decode cX12_isKnown 20 = .ok (.aload_n 0, 1) := by decide +kernel
theorem dX12_isKnown_21 : decode cX12_isKnown 21 = .ok (.getfield 86, 3) := by decide +kernel
theorem dX12_isKnown_24 : decode cX12_isKnown 24 = .ok (.iload_n 1, 1) := by decide +kernel
theorem dX12_isKnown_25 : decode cX12_isKnown 25 = .ok (.iaload, 1) := by decide +kernel
theorem dX12_isKnown_26 : decode cX12_isKnown 26 = .ok (.iload_n 2, 1) := by decide +kernel
theorem dX12_isKnown_27 : decode cX12_isKnown 27 = .ok (.if_icmp .le 7, 3) := by decide +kernel
theorem dX12_isKnown_30 : decode cX12_isKnown 30 = .ok (.iconst 1, 1) := by decide +kernel
theorem dX12_isKnown_31 : decode cX12_isKnown 31 = .ok (.goto 4, 3) := by decide +kernel
theorem dX12_isKnown_34 : decode cX12_isKnown 34 = .ok (.iconst 0, 1) := by decide +kernel
theorem dX12_isKnown_35 : decode cX12_isKnown 35 = .ok (.ireturn, 1) := by decide +kernel
theorem dX12_death_0 : decode cX12_death 0 = .ok (.aload_n 0, 1) := by decide +kernel
theorem dX12_death_1 : decode cX12_death 1 = .ok (.iconst 0, 1) := by decide +kernel
theorem dX12_death_2 : decode cX12_death 2 = .ok (.putfield 208, 3) := by decide +kernel
theorem dX12_death_5 : decode cX12_death 5 = .ok (.aload_n 0, 1) := by decide +kernel
theorem dX12_death_6 : decode cX12_death 6 = .ok (.iload_n 1, 1) := by decide +kernel
theorem dX12_death_7 : decode cX12_death 7 = .ok (.invokevirtual 239, 3) := by decide +kernel
theorem dX12_death_10 : decode cX12_death 10 = .ok (.ifCond .ne 5, 3) := by decide +kernel
theorem dX12_death_13 : decode cX12_death 13 = .ok (.iconst 0, 1) := by decide +kernel
theorem dX12_death_14 : decode cX12_death 14 = .ok (.ireturn, 1) := by decide +kernel
theorem dX12_death_15 : decode cX12_death 15 = .ok (.aload_n 0, 1) := by decide +kernel
theorem dX12_death_16 : decode cX12_death 16 = .ok (.getfield 253, 3) := by decide +kernel
theorem dX12_death_19 : decode cX12_death 19 = .ok (.sipush 200, 3) := by decide +kernel
theorem dX12_death_22 : decode cX12_death 22 = .ok (.if_icmp .eq 22, 3) := by decide +kernel
theorem dX12_death_25 : decode cX12_death 25 = .ok (.iload_n 2, 1) := by decide +kernel
theorem dX12_death_26 : decode cX12_death 26 = .ok (.invokestatic 235, 3) := by decide +kernel
theorem dX12_death_29 : decode cX12_death 29 = .ok (.ifCond .eq 15, 3) := by decide +kernel
theorem dX12_death_32 : decode cX12_death 32 = .ok (.iload_n 3, 1) := by decide +kernel
theorem dX12_death_33 : decode cX12_death 33 = .ok (.invokestatic 235, 3) := by decide +kernel
theorem dX12_death_36 : decode cX12_death 36 = .ok (.ifCond .eq 8, 3) := by decide +kernel
theorem dX12_death_39 : decode cX12_death 39 = .ok (.iload_n 3, 1) := by decide +kernel
theorem dX12_death_40 : decode cX12_death 40 = .ok (.iload_n 2, 1) := by decide +kernel
theorem dX12_death_41 : decode cX12_death 41 = .ok (.if_icmp .ge 5, 3) := by decide +kernel
theorem dX12_death_44 : decode cX12_death 44 = .ok (.iconst (-1), 1) := by decide +kernel
theorem dX12_death_45 : decode cX12_death 45 = .ok (.ireturn, 1) := by decide +kernel
theorem dX12_death_46 : decode cX12_death 46 = .ok (.aload_n 0, 1) := by decide +kernel
theorem dX12_death_47 : decode cX12_death 47 = .ok (.iconst 0, 1) := by decide +kernel
theorem dX12_death_48 : decode cX12_death 48 = .ok (.iload_n 1, 1) := by decide +kernel
theorem dX12_death_49 : decode cX12_death 49 = .ok (.iconst (-1), 1) := by decide +kernel
theorem dX12_death_50 : decode cX12_death 50 = .ok (.iload_n 2, 1) := by decide +kernel
theorem dX12_death_51 : decode cX12_death 51 = .ok (.invokevirtual 256, 3) := by decide +kernel
theorem dX12_death_54 : decode cX12_death 54 = .ok (.istore 4, 2) := by decide +kernel
theorem dX12_death_56 : decode cX12_death 56 = .ok (.aload_n 0, 1) := by decide +kernel
theorem dX12_death_57 : decode cX12_death 57 = .ok (.getfield 71, 3) := by decide +kernel
theorem dX12_death_60 : decode cX12_death 60 = .ok (.iload 4, 2) := by decide +kernel
theorem dX12_death_62 : decode cX12_death 62 = .ok (.iload_n 3, 1) := by decide +kernel
theorem dX12_death_63 : decode cX12_death 63 = .ok (.iastore, 1) := by decide +kernel
theorem dX12_death_64 : decode cX12_death 64 = .ok (.iload 4, 2) := by decide +kernel
theorem dX12_death_66 : decode cX12_death 66 = .ok (.ireturn, 1) := by decide +kernel
theorem dX12_heir_0 : decode cX12_heir 0 = .ok (.aload_n 0, 1) := by decide +kernel
theorem dX12_heir_1 : decode cX12_heir 1 = .ok (.iconst 0, 1) := by decide +kernel
theorem dX12_heir_2 : decode cX12_heir 2 = .ok (.putfield 208, 3) := by decide +kernel
theorem dX12_heir_5 : decode cX12_heir 5 = .ok (.aload_n 0, 1) := by decide +kernel
theorem dX12_heir_6 : decode cX12_heir 6 = .ok (.iload_n 1, 1) := by decide +kernel
theorem dX12_heir_7 : decode cX12_heir 7 = .ok (.invokevirtual 239, 3) := by decide +kernel
theorem dX12_heir_10 : decode cX12_heir 10 = .ok (.ifCond .eq 11, 3) := by decide +kernel
theorem dX12_heir_13 : decode cX12_heir 13 = .ok (.aload_n 0, 1) := by decide +kernel
theorem dX12_heir_14 : decode cX12_heir 14 = .ok (.iload_n 2, 1) := by decide +kernel
theorem dX12_heir_15 : decode cX12_heir 15 = .ok (.invokevirtual 239, 3) := by decide +kernel
theorem dX12_heir_18 : decode cX12_heir 18 = .ok (.ifCond .ne 5, 3) := by decide +kernel
theorem dX12_heir_21 : decode cX12_heir 21 = .ok (.iconst 0, 1) := by decide +kernel
theorem dX12_heir_22 : decode cX12_heir 22 = .ok (.ireturn, 1) := by decide +kernel
theorem dX12_heir_23 : decode cX12_heir 23 = .ok (.aload_n 0, 1) := by decide +kernel
theorem dX12_heir_24 : decode cX12_heir 24 = .ok (.getfield 253, 3) := by decide +kernel
theorem dX12_heir_27 : decode cX12_heir 27 = .ok (.sipush 200, 3) := by decide +kernel
theorem dX12_heir_30 : decode cX12_heir 30 = .ok (.if_icmp .eq 32, 3) := by decide +kernel
theorem dX12_heir_33 : decode cX12_heir 33 = .ok (.iload 4, 2) := by decide +kernel
theorem dX12_heir_35 : decode cX12_heir 35 = .ok (.iconst 1, 1) := by decide +kernel
theorem dX12_heir_36 : decode cX12_heir 36 = .ok (.if_icmp .lt 26, 3) := by decide +kernel
theorem dX12_heir_39 : decode cX12_heir 39 = .ok (.iload 4, 2) := by decide +kernel
theorem dX12_heir_41 : decode cX12_heir 41 = .ok (.bipush 12, 2) := by decide +kernel
theorem dX12_heir_43 : decode cX12_heir 43 = .ok (.if_icmp .gt 19, 3) := by decide +kernel
theorem dX12_heir_46 : decode cX12_heir 46 = .ok (.iload_n 3, 1) := by decide +kernel
theorem dX12_heir_47 : decode cX12_heir 47 = .ok (.iconst 1, 1) := by decide +kernel
theorem dX12_heir_48 : decode cX12_heir 48 = .ok (.if_icmp .lt 14, 3) := by decide +kernel
theorem dX12_heir_51 : decode cX12_heir 51 = .ok (.iload_n 3, 1) := by decide +kernel
theorem dX12_heir_52 : decode cX12_heir 52 = .ok (.iload 4, 2) := by decide +kernel
theorem dX12_heir_54 : decode cX12_heir 54 = .ok (.if_icmp .gt 8, 3) := by decide +kernel
theorem dX12_heir_57 : decode cX12_heir 57 = .ok (.iload_n 1, 1) := by decide +kernel
theorem dX12_heir_58 : decode cX12_heir 58 = .ok (.iload_n 2, 1) := by decide +kernel
theorem dX12_heir_59 : decode cX12_heir 59 = .ok (.if_icmp .ne 5, 3) := by decide +kernel
theorem dX12_heir_62 : decode cX12_heir 62 = .ok (.iconst (-1), 1) := by decide +kernel
theorem dX12_heir_63 : decode cX12_heir 63 = .ok (.ireturn, 1) := by decide +kernel
theorem dX12_heir_64 : decode cX12_heir 64 = .ok (.sipush 27720, 3) := by decide +kernel
theorem dX12_heir_67 : decode cX12_heir 67 = .ok (.iload 4, 2) := by decide +kernel
theorem dX12_heir_69 : decode cX12_heir 69 = .ok (.idiv, 1) := by decide +kernel
theorem dX12_heir_70 : decode cX12_heir 70 = .ok (.iload_n 3, 1) := by decide +kernel
theorem dX12_heir_71 : decode cX12_heir 71 = .ok (.imul, 1) := by decide +kernel
theorem dX12_heir_72 : decode cX12_heir 72 = .ok (.istore 5, 2) := by decide +kernel
theorem dX12_heir_74 : decode cX12_heir 74 = .ok (.iconst 0, 1) := by decide +kernel
theorem dX12_heir_75 : decode cX12_heir 75 = .ok (.istore 6, 2) := by decide +kernel
theorem dX12_heir_77 : decode cX12_heir 77 = .ok (.iload 6, 2) := by decide +kernel
theorem dX12_heir_79 : decode cX12_heir 79 = .ok (.aload_n 0, 1) := by decide +kernel
theorem dX12_heir_80 : decode cX12_heir 80 = .ok (.getfield 253, 3) := by decide +kernel
theorem dX12_heir_83 : decode cX12_heir 83 = .ok (.if_icmp .ge 68, 3) := by decide +kernel
theorem dX12_heir_86 : decode cX12_heir 86 = .ok (.aload_n 0, 1) := by decide +kernel
theorem dX12_heir_87 : decode cX12_heir 87 = .ok (.getfield 56, 3) := by decide +kernel
theorem dX12_heir_90 : decode cX12_heir 90 = .ok (.iload 6, 2) := by decide +kernel
theorem dX12_heir_92 : decode cX12_heir 92 = .ok (.iaload, 1) := by decide +kernel
theorem dX12_heir_93 : decode cX12_heir 93 = .ok (.iconst 1, 1) := by decide +kernel
theorem dX12_heir_94 : decode cX12_heir 94 = .ok (.if_icmp .ne 51, 3) := by decide +kernel
theorem dX12_heir_97 : decode cX12_heir 97 = .ok (.aload_n 0, 1) := by decide +kernel
theorem dX12_heir_98 : decode cX12_heir 98 = .ok (.getfield 62, 3) := by decide +kernel
theorem dX12_heir_101 : decode cX12_heir 101 = .ok (.iload 6, 2) := by decide +kernel
theorem dX12_heir_103 : decode cX12_heir 103 = .ok (.iaload, 1) := by decide +kernel
theorem dX12_heir_104 : decode cX12_heir 104 = .ok (.iload_n 1, 1) := by decide +kernel
theorem dX12_heir_105 : decode cX12_heir 105 = .ok (.if_icmp .ne 40, 3) := by decide +kernel
theorem dX12_heir_108 : decode cX12_heir 108 = .ok (.aload_n 0, 1) := by decide +kernel
theorem dX12_heir_109 : decode cX12_heir 109 = .ok (.iload 6, 2) := by decide +kernel
theorem dX12_heir_111 : decode cX12_heir 111 = .ok (.aload_n 0, 1) := by decide +kernel
theorem dX12_heir_112 : decode cX12_heir 112 = .ok (.getfield 250, 3) := by decide +kernel
theorem dX12_heir_115 : decode cX12_heir 115 = .ok (.invokevirtual 260, 3) := by decide +kernel
theorem dX12_heir_118 : decode cX12_heir 118 = .ok (.ifCond .eq 27, 3) := by decide +kernel
theorem dX12_heir_121 : decode cX12_heir 121 = .ok (.iload 5, 2) := by decide +kernel
theorem dX12_heir_123 : decode cX12_heir 123 = .ok (.sipush 27720, 3) := by decide +kernel
theorem dX12_heir_126 : decode cX12_heir 126 = .ok (.aload_n 0, 1) := by decide +kernel
theorem dX12_heir_127 : decode cX12_heir 127 = .ok (.getfield 80, 3) := by decide +kernel
theorem dX12_heir_130 : decode cX12_heir 130 = .ok (.iload 6, 2) := by decide +kernel
theorem dX12_heir_132 : decode cX12_heir 132 = .ok (.iaload, 1) := by decide +kernel
theorem dX12_heir_133 : decode cX12_heir 133 = .ok (.idiv, 1) := by decide +kernel
theorem dX12_heir_134 : decode cX12_heir 134 = .ok (.aload_n 0, 1) := by decide +kernel
theorem dX12_heir_135 : decode cX12_heir 135 = .ok (.getfield 77, 3) := by decide +kernel
theorem dX12_heir_138 : decode cX12_heir 138 = .ok (.iload 6, 2) := by decide +kernel
theorem dX12_heir_140 : decode cX12_heir 140 = .ok (.iaload, 1) := by decide +kernel
theorem dX12_heir_141 : decode cX12_heir 141 = .ok (.imul, 1) := by decide +kernel
theorem dX12_heir_142 : decode cX12_heir 142 = .ok (.iadd, 1) := by decide +kernel
theorem dX12_heir_143 : decode cX12_heir 143 = .ok (.istore 5, 2) := by decide +kernel
theorem dX12_heir_145 : decode cX12_heir 145 = .ok (.iinc 6 1, 3) := by decide +kernel
theorem dX12_heir_148 : decode cX12_heir 148 = .ok (.goto (-71), 3) := by decide +kernel
theorem dX12_heir_151 : decode cX12_heir 151 = .ok (.iload 5, 2) := by decide +kernel
theorem dX12_heir_153 : decode cX12_heir 153 = .ok (.sipush 27720, 3) := by decide +kernel
theorem dX12_heir_156 : decode cX12_heir 156 = .ok (.if_icmp .le 5, 3) := by decide +kernel
theorem dX12_heir_159 : decode cX12_heir 159 = .ok (.iconst (-1), 1) := by decide +kernel
theorem dX12_heir_160 : decode cX12_heir 160 = .ok (.ireturn, 1) := by decide +kernel
theorem dX12_heir_161 : decode cX12_heir 161 = .ok (.aload_n 0, 1) := by decide +kernel
theorem dX12_heir_162 : decode cX12_heir 162 = .ok (.iconst 1, 1) := by decide +kernel
theorem dX12_heir_163 : decode cX12_heir 163 = .ok (.iload_n 1, 1) := by decide +kernel
theorem dX12_heir_164 : decode cX12_heir 164 = .ok (.iload_n 2, 1) := by decide +kernel
theorem dX12_heir_165 : decode cX12_heir 165 = .ok (.iconst 0, 1) := by decide +kernel
theorem dX12_heir_166 : decode cX12_heir 166 = .ok (.invokevirtual 256, 3) := by decide +kernel
theorem dX12_heir_169 : decode cX12_heir 169 = .ok (.istore 6, 2) := by decide +kernel
theorem dX12_heir_171 : decode cX12_heir 171 = .ok (.aload_n 0, 1) := by decide +kernel
theorem dX12_heir_172 : decode cX12_heir 172 = .ok (.getfield 77, 3) := by decide +kernel
theorem dX12_heir_175 : decode cX12_heir 175 = .ok (.iload 6, 2) := by decide +kernel
theorem dX12_heir_177 : decode cX12_heir 177 = .ok (.iload_n 3, 1) := by decide +kernel
theorem dX12_heir_178 : decode cX12_heir 178 = .ok (.iastore, 1) := by decide +kernel
theorem dX12_heir_179 : decode cX12_heir 179 = .ok (.aload_n 0, 1) := by decide +kernel
theorem dX12_heir_180 : decode cX12_heir 180 = .ok (.getfield 80, 3) := by decide +kernel
theorem dX12_heir_183 : decode cX12_heir 183 = .ok (.iload 6, 2) := by decide +kernel
theorem dX12_heir_185 : decode cX12_heir 185 = .ok (.iload 4, 2) := by decide +kernel
theorem dX12_heir_187 : decode cX12_heir 187 = .ok (.iastore, 1) := by decide +kernel
theorem dX12_heir_188 : decode cX12_heir 188 = .ok (.iload 6, 2) := by decide +kernel
theorem dX12_heir_190 : decode cX12_heir 190 = .ok (.ireturn, 1) := by decide +kernel
theorem dX12_sale_0 : decode cX12_sale 0 = .ok (.aload_n 0, 1) := by decide +kernel
theorem dX12_sale_1 : decode cX12_sale 1 = .ok (.iconst 0, 1) := by decide +kernel
theorem dX12_sale_2 : decode cX12_sale 2 = .ok (.putfield 208, 3) := by decide +kernel
theorem dX12_sale_5 : decode cX12_sale 5 = .ok (.aload_n 0, 1) := by decide +kernel
theorem dX12_sale_6 : decode cX12_sale 6 = .ok (.iload_n 1, 1) := by decide +kernel
theorem dX12_sale_7 : decode cX12_sale 7 = .ok (.invokevirtual 243, 3) := by decide +kernel
theorem dX12_sale_10 : decode cX12_sale 10 = .ok (.ifCond .eq 28, 3) := by decide +kernel
theorem dX12_sale_13 : decode cX12_sale 13 = .ok (.aload_n 0, 1) := by decide +kernel
theorem dX12_sale_14 : decode cX12_sale 14 = .ok (.iload_n 2, 1) := by decide +kernel
theorem dX12_sale_15 : decode cX12_sale 15 = .ok (.invokevirtual 239, 3) := by decide +kernel
theorem dX12_sale_18 : decode cX12_sale 18 = .ok (.ifCond .eq 20, 3) := by decide +kernel
theorem dX12_sale_21 : decode cX12_sale 21 = .ok (.aload_n 0, 1) := by decide +kernel
theorem dX12_sale_22 : decode cX12_sale 22 = .ok (.iload_n 3, 1) := by decide +kernel
theorem dX12_sale_23 : decode cX12_sale 23 = .ok (.invokevirtual 239, 3) := by decide +kernel
theorem dX12_sale_26 : decode cX12_sale 26 = .ok (.ifCond .eq 12, 3) := by decide +kernel
theorem dX12_sale_29 : decode cX12_sale 29 = .ok (.aload_n 0, 1) := by decide +kernel
theorem dX12_sale_30 : decode cX12_sale 30 = .ok (.iload 5, 2) := by decide +kernel
theorem dX12_sale_32 : decode cX12_sale 32 = .ok (.invokevirtual 228, 3) := by decide +kernel
theorem dX12_sale_35 : decode cX12_sale 35 = .ok (.ifCond .ne 5, 3) := by decide +kernel
theorem dX12_sale_38 : decode cX12_sale 38 = .ok (.iconst 0, 1) := by decide +kernel
theorem dX12_sale_39 : decode cX12_sale 39 = .ok (.ireturn, 1) := by decide +kernel
theorem dX12_sale_40 : decode cX12_sale 40 = .ok (.aload_n 0, 1) := by decide +kernel
theorem dX12_sale_41 : decode cX12_sale 41 = .ok (.getfield 253, 3) := by decide +kernel
theorem dX12_sale_44 : decode cX12_sale 44 = .ok (.sipush 200, 3) := by decide +kernel
theorem dX12_sale_47 : decode cX12_sale 47 = .ok (.if_icmp .eq 41, 3) := by decide +kernel
theorem dX12_sale_50 : decode cX12_sale 50 = .ok (.iload_n 2, 1) := by decide +kernel
theorem dX12_sale_51 : decode cX12_sale 51 = .ok (.iload_n 3, 1) := by decide +kernel
theorem dX12_sale_52 : decode cX12_sale 52 = .ok (.if_icmp .eq 36, 3) := by decide +kernel
theorem dX12_sale_55 : decode cX12_sale 55 = .ok (.iload 4, 2) := by decide +kernel
theorem dX12_sale_57 : decode cX12_sale 57 = .ok (.invokestatic 235, 3) := by decide +kernel
theorem dX12_sale_60 : decode cX12_sale 60 = .ok (.ifCond .eq 28, 3) := by decide +kernel
theorem dX12_sale_63 : decode cX12_sale 63 = .ok (.iload 6, 2) := by decide +kernel
theorem dX12_sale_65 : decode cX12_sale 65 = .ok (.iconst 1, 1) := by decide +kernel
theorem dX12_sale_66 : decode cX12_sale 66 = .ok (.if_icmp .lt 22, 3) := by decide +kernel
theorem dX12_sale_69 : decode cX12_sale 69 = .ok (.iload 6, 2) := by decide +kernel
theorem dX12_sale_71 : decode cX12_sale 71 = .ok (.ldc_w 263, 3) := by decide +kernel
theorem dX12_sale_74 : decode cX12_sale 74 = .ok (.if_icmp .gt 14, 3) := by decide +kernel
theorem dX12_sale_77 : decode cX12_sale 77 = .ok (.iload 7, 2) := by decide +kernel
theorem dX12_sale_79 : decode cX12_sale 79 = .ok (.ifCond .lt 9, 3) := by decide +kernel
theorem dX12_sale_82 : decode cX12_sale 82 = .ok (.iload 7, 2) := by decide +kernel
theorem dX12_sale_84 : decode cX12_sale 84 = .ok (.iconst 3, 1) := by decide +kernel
theorem dX12_sale_85 : decode cX12_sale 85 = .ok (.if_icmp .le 5, 3) := by decide +kernel
theorem dX12_sale_88 : decode cX12_sale 88 = .ok (.iconst (-1), 1) := by decide +kernel
theorem dX12_sale_89 : decode cX12_sale 89 = .ok (.ireturn, 1) := by decide +kernel
theorem dX12_sale_90 : decode cX12_sale 90 = .ok (.aload_n 0, 1) := by decide +kernel
theorem dX12_sale_91 : decode cX12_sale 91 = .ok (.iconst 2, 1) := by decide +kernel
theorem dX12_sale_92 : decode cX12_sale 92 = .ok (.iload_n 2, 1) := by decide +kernel
theorem dX12_sale_93 : decode cX12_sale 93 = .ok (.iload_n 3, 1) := by decide +kernel
theorem dX12_sale_94 : decode cX12_sale 94 = .ok (.iload 4, 2) := by decide +kernel
theorem dX12_sale_96 : decode cX12_sale 96 = .ok (.invokevirtual 256, 3) := by decide +kernel
theorem dX12_sale_99 : decode cX12_sale 99 = .ok (.istore 8, 2) := by decide +kernel
theorem dX12_sale_101 : decode cX12_sale 101 = .ok (.aload_n 0, 1) := by decide +kernel
theorem dX12_sale_102 : decode cX12_sale 102 = .ok (.getfield 59, 3) := by decide +kernel
theorem dX12_sale_105 : decode cX12_sale 105 = .ok (.iload 8, 2) := by decide +kernel
theorem dX12_sale_107 : decode cX12_sale 107 = .ok (.iload_n 1, 1) := by decide +kernel
theorem dX12_sale_108 : decode cX12_sale 108 = .ok (.iastore, 1) := by decide +kernel
theorem dX12_sale_109 : decode cX12_sale 109 = .ok (.aload_n 0, 1) := by decide +kernel
theorem dX12_sale_110 : decode cX12_sale 110 = .ok (.getfield 74, 3) := by decide +kernel
theorem dX12_sale_113 : decode cX12_sale 113 = .ok (.iload 8, 2) := by decide +kernel
theorem dX12_sale_115 : decode cX12_sale 115 = .ok (.iload 5, 2) := by decide +kernel
theorem dX12_sale_117 : decode cX12_sale 117 = .ok (.iastore, 1) := by decide +kernel
theorem dX12_sale_118 : decode cX12_sale 118 = .ok (.aload_n 0, 1) := by decide +kernel
theorem dX12_sale_119 : decode cX12_sale 119 = .ok (.getfield 77, 3) := by decide +kernel
theorem dX12_sale_122 : decode cX12_sale 122 = .ok (.iload 8, 2) := by decide +kernel
theorem dX12_sale_124 : decode cX12_sale 124 = .ok (.iload 6, 2) := by decide +kernel
theorem dX12_sale_126 : decode cX12_sale 126 = .ok (.iastore, 1) := by decide +kernel
theorem dX12_sale_127 : decode cX12_sale 127 = .ok (.aload_n 0, 1) := by decide +kernel
theorem dX12_sale_128 : decode cX12_sale 128 = .ok (.getfield 80, 3) := by decide +kernel
theorem dX12_sale_131 : decode cX12_sale 131 = .ok (.iload 8, 2) := by decide +kernel
theorem dX12_sale_133 : decode cX12_sale 133 = .ok (.iload 7, 2) := by decide +kernel
theorem dX12_sale_135 : decode cX12_sale 135 = .ok (.iastore, 1) := by decide +kernel
theorem dX12_sale_136 : decode cX12_sale 136 = .ok (.aload_n 0, 1) := by decide +kernel
theorem dX12_sale_137 : decode cX12_sale 137 = .ok (.getfield 37, 3) := by decide +kernel
theorem dX12_sale_140 : decode cX12_sale 140 = .ok (.iload_n 1, 1) := by decide +kernel
theorem dX12_sale_141 : decode cX12_sale 141 = .ok (.iconst 1, 1) := by decide +kernel
theorem dX12_sale_142 : decode cX12_sale 142 = .ok (.bastore, 1) := by decide +kernel
theorem dX12_sale_143 : decode cX12_sale 143 = .ok (.iload 8, 2) := by decide +kernel
theorem dX12_sale_145 : decode cX12_sale 145 = .ok (.ireturn, 1) := by decide +kernel
theorem dX12_fact_0 : decode cX12_fact 0 = .ok (.aload_n 0, 1) := by decide +kernel
theorem dX12_fact_1 : decode cX12_fact 1 = .ok (.iconst 0, 1) := by decide +kernel
theorem dX12_fact_2 : decode cX12_fact 2 = .ok (.putfield 208, 3) := by decide +kernel
theorem dX12_fact_5 : decode cX12_fact 5 = .ok (.aload_n 0, 1) := by decide +kernel
theorem dX12_fact_6 : decode cX12_fact 6 = .ok (.iload_n 1, 1) := by decide +kernel
theorem dX12_fact_7 : decode cX12_fact 7 = .ok (.iconst 3, 1) := by decide +kernel
theorem dX12_fact_8 : decode cX12_fact 8 = .ok (.if_icmp .lt 12, 3) := by decide +kernel
theorem dX12_fact_11 : decode cX12_fact 11 = .ok (.iload_n 1, 1) := by decide +kernel
theorem dX12_fact_12 : decode cX12_fact 12 = .ok (.iconst 5, 1) := by decide +kernel
theorem dX12_fact_13 : decode cX12_fact 13 = .ok (.if_icmp .gt 7, 3) := by decide +kernel
theorem dX12_fact_16 : decode cX12_fact 16 = .ok (.iconst 1, 1) := by decide +kernel
theorem dX12_fact_17 : decode cX12_fact 17 = .ok (.goto 4, 3) := by decide +kernel
theorem dX12_fact_20 : decode cX12_fact 20 = .ok (.iconst 0, 1) := by decide +kernel
theorem dX12_fact_21 : decode cX12_fact 21 = .ok (.iconst 1, 1) := by decide +kernel
theorem dX12_fact_22 : decode cX12_fact 22 = .ok (.invokevirtual 214, 3) := by decide +kernel
theorem dX12_fact_25 : decode cX12_fact 25 = .ok (.ifCond .ne 5, 3) := by decide +kernel
theorem dX12_fact_28 : decode cX12_fact 28 = .ok (.iconst 0, 1) := by decide +kernel
theorem dX12_fact_29 : decode cX12_fact 29 = .ok (.ireturn, 1) := by decide +kernel
theorem dX12_fact_30 : decode cX12_fact 30 = .ok (.iload_n 1, 1) := by decide +kernel
theorem dX12_fact_31 : decode cX12_fact 31 = .ok (.iconst 5, 1) := by decide +kernel
theorem dX12_fact_32 : decode cX12_fact 32 = .ok (.if_icmp .eq 13, 3) := by decide +kernel
theorem dX12_fact_35 : decode cX12_fact 35 = .ok (.aload_n 0, 1) := by decide +kernel
theorem dX12_fact_36 : decode cX12_fact 36 = .ok (.iload_n 2, 1) := by decide +kernel
theorem dX12_fact_37 : decode cX12_fact 37 = .ok (.invokevirtual 243, 3) := by decide +kernel
theorem dX12_fact_40 : decode cX12_fact 40 = .ok (.ifCond .ne 5, 3) := by decide +kernel
theorem dX12_fact_43 : decode cX12_fact 43 = .ok (.iconst 0, 1) := by decide +kernel
theorem dX12_fact_44 : decode cX12_fact 44 = .ok (.ireturn, 1) := by decide +kernel
theorem dX12_fact_45 : decode cX12_fact 45 = .ok (.aload_n 0, 1) := by decide +kernel
theorem dX12_fact_46 : decode cX12_fact 46 = .ok (.iload_n 3, 1) := by decide +kernel
theorem dX12_fact_47 : decode cX12_fact 47 = .ok (.invokevirtual 239, 3) := by decide +kernel
theorem dX12_fact_50 : decode cX12_fact 50 = .ok (.ifCond .ne 5, 3) := by decide +kernel
theorem dX12_fact_53 : decode cX12_fact 53 = .ok (.iconst 0, 1) := by decide +kernel
theorem dX12_fact_54 : decode cX12_fact 54 = .ok (.ireturn, 1) := by decide +kernel
theorem dX12_fact_55 : decode cX12_fact 55 = .ok (.iload_n 1, 1) := by decide +kernel
theorem dX12_fact_56 : decode cX12_fact 56 = .ok (.iconst 3, 1) := by decide +kernel
theorem dX12_fact_57 : decode cX12_fact 57 = .ok (.if_icmp .ne 14, 3) := by decide +kernel
theorem dX12_fact_60 : decode cX12_fact 60 = .ok (.aload_n 0, 1) := by decide +kernel
theorem dX12_fact_61 : decode cX12_fact 61 = .ok (.iload 4, 2) := by decide +kernel
theorem dX12_fact_63 : decode cX12_fact 63 = .ok (.invokevirtual 239, 3) := by decide +kernel
theorem dX12_fact_66 : decode cX12_fact 66 = .ok (.ifCond .ne 5, 3) := by decide +kernel
theorem dX12_fact_69 : decode cX12_fact 69 = .ok (.iconst 0, 1) := by decide +kernel
theorem dX12_fact_70 : decode cX12_fact 70 = .ok (.ireturn, 1) := by decide +kernel
theorem dX12_fact_71 : decode cX12_fact 71 = .ok (.iload_n 1, 1) := by decide +kernel
theorem dX12_fact_72 : decode cX12_fact 72 = .ok (.iconst 5, 1) := by decide +kernel
theorem dX12_fact_73 : decode cX12_fact 73 = .ok (.if_icmp .ne 14, 3) := by decide +kernel
theorem dX12_fact_76 : decode cX12_fact 76 = .ok (.aload_n 0, 1) := by decide +kernel
theorem dX12_fact_77 : decode cX12_fact 77 = .ok (.iload 4, 2) := by decide +kernel
theorem dX12_fact_79 : decode cX12_fact 79 = .ok (.invokevirtual 264, 3) := by decide +kernel
theorem dX12_fact_82 : decode cX12_fact 82 = .ok (.ifCond .ne 5, 3) := by decide +kernel
theorem dX12_fact_85 : decode cX12_fact 85 = .ok (.iconst 0, 1) := by decide +kernel
theorem dX12_fact_86 : decode cX12_fact 86 = .ok (.ireturn, 1) := by decide +kernel
theorem dX12_fact_87 : decode cX12_fact 87 = .ok (.aload_n 0, 1) := by decide +kernel
theorem dX12_fact_88 : decode cX12_fact 88 = .ok (.getfield 253, 3) := by decide +kernel
theorem dX12_fact_91 : decode cX12_fact 91 = .ok (.sipush 200, 3) := by decide +kernel
theorem dX12_fact_94 : decode cX12_fact 94 = .ok (.if_icmp .eq 22, 3) := by decide +kernel
theorem dX12_fact_97 : decode cX12_fact 97 = .ok (.iload 5, 2) := by decide +kernel
theorem dX12_fact_99 : decode cX12_fact 99 = .ok (.invokestatic 235, 3) := by decide +kernel
theorem dX12_fact_102 : decode cX12_fact 102 = .ok (.ifCond .eq 14, 3) := by decide +kernel
theorem dX12_fact_105 : decode cX12_fact 105 = .ok (.iload_n 1, 1) := by decide +kernel
theorem dX12_fact_106 : decode cX12_fact 106 = .ok (.iconst 3, 1) := by decide +kernel
theorem dX12_fact_107 : decode cX12_fact 107 = .ok (.if_icmp .ne 11, 3) := by decide +kernel
theorem dX12_fact_110 : decode cX12_fact 110 = .ok (.iload_n 3, 1) := by decide +kernel
theorem dX12_fact_111 : decode cX12_fact 111 = .ok (.iload 4, 2) := by decide +kernel
theorem dX12_fact_113 : decode cX12_fact 113 = .ok (.if_icmp .ne 5, 3) := by decide +kernel
theorem dX12_fact_116 : decode cX12_fact 116 = .ok (.iconst (-1), 1) := by decide +kernel
theorem dX12_fact_117 : decode cX12_fact 117 = .ok (.ireturn, 1) := by decide +kernel
theorem dX12_fact_118 : decode cX12_fact 118 = .ok (.aload_n 0, 1) := by decide +kernel
theorem dX12_fact_119 : decode cX12_fact 119 = .ok (.iload_n 1, 1) := by decide +kernel
theorem dX12_fact_120 : decode cX12_fact 120 = .ok (.iload_n 3, 1) := by decide +kernel
theorem dX12_fact_121 : decode cX12_fact 121 = .ok (.iload 4, 2) := by decide +kernel
theorem dX12_fact_123 : decode cX12_fact 123 = .ok (.iload 5, 2) := by decide +kernel
theorem dX12_fact_125 : decode cX12_fact 125 = .ok (.invokevirtual 256, 3) := by decide +kernel
theorem dX12_fact_128 : decode cX12_fact 128 = .ok (.istore 6, 2) := by decide +kernel
theorem dX12_fact_130 : decode cX12_fact 130 = .ok (.aload_n 0, 1) := by decide +kernel
theorem dX12_fact_131 : decode cX12_fact 131 = .ok (.getfield 59, 3) := by decide +kernel
theorem dX12_fact_134 : decode cX12_fact 134 = .ok (.iload 6, 2) := by decide +kernel
theorem dX12_fact_136 : decode cX12_fact 136 = .ok (.iload_n 1, 1) := by decide +kernel
theorem dX12_fact_137 : decode cX12_fact 137 = .ok (.iconst 5, 1) := by decide +kernel
theorem dX12_fact_138 : decode cX12_fact 138 = .ok (.if_icmp .ne 7, 3) := by decide +kernel
theorem dX12_fact_141 : decode cX12_fact 141 = .ok (.iconst (-1), 1) := by decide +kernel
theorem dX12_fact_142 : decode cX12_fact 142 = .ok (.goto 4, 3) := by decide +kernel
theorem dX12_fact_145 : decode cX12_fact 145 = .ok (.iload_n 2, 1) := by decide +kernel
theorem dX12_fact_146 : decode cX12_fact 146 = .ok (.iastore, 1) := by decide +kernel
theorem dX12_fact_147 : decode cX12_fact 147 = .ok (.iload 6, 2) := by decide +kernel
theorem dX12_fact_149 : decode cX12_fact 149 = .ok (.ireturn, 1) := by decide +kernel
theorem dX12_back_0 : decode cX12_back 0 = .ok (.aload_n 0, 1) := by decide +kernel
theorem dX12_back_1 : decode cX12_back 1 = .ok (.iconst 0, 1) := by decide +kernel
theorem dX12_back_2 : decode cX12_back 2 = .ok (.putfield 208, 3) := by decide +kernel
theorem dX12_back_5 : decode cX12_back 5 = .ok (.aload_n 0, 1) := by decide +kernel
theorem dX12_back_6 : decode cX12_back 6 = .ok (.iload_n 2, 1) := by decide +kernel
theorem dX12_back_7 : decode cX12_back 7 = .ok (.ifCond .lt 26, 3) := by decide +kernel
theorem dX12_back_10 : decode cX12_back 10 = .ok (.iload_n 2, 1) := by decide +kernel
theorem dX12_back_11 : decode cX12_back 11 = .ok (.iload_n 1, 1) := by decide +kernel
theorem dX12_back_12 : decode cX12_back 12 = .ok (.ifCond .eq 10, 3) := by decide +kernel
theorem dX12_back_15 : decode cX12_back 15 = .ok (.aload_n 0, 1) := by decide +kernel
theorem dX12_back_16 : decode cX12_back 16 = .ok (.getfield 267, 3) := by decide +kernel
theorem dX12_back_19 : decode cX12_back 19 = .ok (.goto 7, 3) := by decide +kernel
theorem dX12_back_22 : decode cX12_back 22 = .ok (.aload_n 0, 1) := by decide +kernel
theorem dX12_back_23 : decode cX12_back 23 = .ok (.getfield 253, 3) := by decide +kernel
theorem dX12_back_26 : decode cX12_back 26 = .ok (.if_icmp .ge 7, 3) := by decide +kernel
theorem dX12_back_29 : decode cX12_back 29 = .ok (.iconst 1, 1) := by decide +kernel
theorem dX12_back_30 : decode cX12_back 30 = .ok (.goto 4, 3) := by decide +kernel
theorem dX12_back_33 : decode cX12_back 33 = .ok (.iconst 0, 1) := by decide +kernel
theorem dX12_back_34 : decode cX12_back 34 = .ok (.iconst 1, 1) := by decide +kernel
theorem dX12_back_35 : decode cX12_back 35 = .ok (.invokevirtual 214, 3) := by decide +kernel
theorem dX12_back_38 : decode cX12_back 38 = .ok (.ifCond .ne 5, 3) := by decide +kernel
theorem dX12_back_41 : decode cX12_back 41 = .ok (.iconst 0, 1) := by decide +kernel
theorem dX12_back_42 : decode cX12_back 42 = .ok (.ireturn, 1) := by decide +kernel
theorem dX12_back_43 : decode cX12_back 43 = .ok (.iload_n 1, 1) := by decide +kernel
theorem dX12_back_44 : decode cX12_back 44 = .ok (.ifCond .eq 12, 3) := by decide +kernel
theorem dX12_back_47 : decode cX12_back 47 = .ok (.aload_n 0, 1) := by decide +kernel
theorem dX12_back_48 : decode cX12_back 48 = .ok (.getfield 114, 3) := by decide +kernel
theorem dX12_back_51 : decode cX12_back 51 = .ok (.iload_n 2, 1) := by decide +kernel
theorem dX12_back_52 : decode cX12_back 52 = .ok (.iaload, 1) := by decide +kernel
theorem dX12_back_53 : decode cX12_back 53 = .ok (.goto 9, 3) := by decide +kernel
theorem dX12_back_56 : decode cX12_back 56 = .ok (.aload_n 0, 1) := by decide +kernel
theorem dX12_back_57 : decode cX12_back 57 = .ok (.getfield 86, 3) := by decide +kernel
theorem dX12_back_60 : decode cX12_back 60 = .ok (.iload_n 2, 1) := by decide +kernel
theorem dX12_back_61 : decode cX12_back 61 = .ok (.iaload, 1) := by decide +kernel
theorem dX12_back_62 : decode cX12_back 62 = .ok (.iconst (-1), 1) := by decide +kernel
theorem dX12_back_63 : decode cX12_back 63 = .ok (.if_icmp .eq 5, 3) := by decide +kernel
theorem dX12_back_66 : decode cX12_back 66 = .ok (.iconst 0, 1) := by decide +kernel
theorem dX12_back_67 : decode cX12_back 67 = .ok (.ireturn, 1) := by decide +kernel
theorem dX12_back_68 : decode cX12_back 68 = .ok (.iload_n 1, 1) := by decide +kernel
theorem dX12_back_69 : decode cX12_back 69 = .ok (.ifCond .eq 16, 3) := by decide +kernel
theorem dX12_back_72 : decode cX12_back 72 = .ok (.aload_n 0, 1) := by decide +kernel
theorem dX12_back_73 : decode cX12_back 73 = .ok (.getfield 114, 3) := by decide +kernel
theorem dX12_back_76 : decode cX12_back 76 = .ok (.iload_n 2, 1) := by decide +kernel
theorem dX12_back_77 : decode cX12_back 77 = .ok (.aload_n 0, 1) := by decide +kernel
theorem dX12_back_78 : decode cX12_back 78 = .ok (.getfield 250, 3) := by decide +kernel
theorem dX12_back_81 : decode cX12_back 81 = .ok (.iastore, 1) := by decide +kernel
theorem dX12_back_82 : decode cX12_back 82 = .ok (.goto 13, 3) := by decide +kernel
theorem dX12_back_85 : decode cX12_back 85 = .ok (.aload_n 0, 1) := by decide +kernel
theorem dX12_back_86 : decode cX12_back 86 = .ok (.getfield 86, 3) := by decide +kernel
theorem dX12_back_89 : decode cX12_back 89 = .ok (.iload_n 2, 1) := by decide +kernel
theorem dX12_back_90 : decode cX12_back 90 = .ok (.aload_n 0, 1) := by decide +kernel
theorem dX12_back_91 : decode cX12_back 91 = .ok (.getfield 250, 3) := by decide +kernel
theorem dX12_back_94 : decode cX12_back 94 = .ok (.iastore, 1) := by decide +kernel
theorem dX12_back_95 : decode cX12_back 95 = .ok (.iconst 1, 1) := by decide +kernel
theorem dX12_back_96 : decode cX12_back 96 = .ok (.ireturn, 1) := by decide +kernel
theorem dX12_isSale_0 : decode cX12_isSale 0 = .ok (.aload_n 0, 1) := by decide +kernel
theorem dX12_isSale_1 : decode cX12_isSale 1 = .ok (.iload_n 1, 1) := by decide +kernel
theorem dX12_isSale_2 : decode cX12_isSale 2 = .ok (.ifCond .lt 25, 3) := by decide +kernel
theorem dX12_isSale_5 : decode cX12_isSale 5 = .ok (.iload_n 1, 1) := by decide +kernel
theorem dX12_isSale_6 : decode cX12_isSale 6 = .ok (.aload_n 0, 1) := by decide +kernel
theorem dX12_isSale_7 : decode cX12_isSale 7 = .ok (.getfield 253, 3) := by decide +kernel
theorem dX12_isSale_10 : decode cX12_isSale 10 = .ok (.if_icmp .ge 17, 3) := by decide +kernel
theorem dX12_isSale_13 : decode cX12_isSale 13 = .ok (.aload_n 0, 1) := by decide +kernel
theorem dX12_isSale_14 : decode cX12_isSale 14 = .ok (.getfield 56, 3) := by decide +kernel
theorem dX12_isSale_17 : decode cX12_isSale 17 = .ok (.iload_n 1, 1) := by decide +kernel
theorem dX12_isSale_18 : decode cX12_isSale 18 = .ok (.iaload, 1) := by decide +kernel
theorem dX12_isSale_19 : decode cX12_isSale 19 = .ok (.iconst 2, 1) := by decide +kernel
theorem dX12_isSale_20 : decode cX12_isSale 20 = .ok (.if_icmp .ne 7, 3) := by decide +kernel
theorem dX12_isSale_23 : decode cX12_isSale 23 = .ok (.iconst 1, 1) := by decide +kernel
theorem dX12_isSale_24 : decode cX12_isSale 24 = .ok (.goto 4, 3) := by decide +kernel
theorem dX12_isSale_27 : decode cX12_isSale 27 = .ok (.iconst 0, 1) := by decide +kernel
theorem dX12_isSale_28 : decode cX12_isSale 28 = .ok (.iconst 1, 1) := by decide +kernel
theorem dX12_isSale_29 : decode cX12_isSale 29 = .ok (.invokevirtual 214, 3) := by decide +kernel
theorem dX12_isSale_32 : decode cX12_isSale 32 = .ok (.ireturn, 1) := by decide +kernel
theorem dX12_claim_0 : decode cX12_claim 0 = .ok (.aload_n 0, 1) := by decide +kernel
theorem dX12_claim_1 : decode cX12_claim 1 = .ok (.iconst 0, 1) := by decide +kernel
theorem dX12_claim_2 : decode cX12_claim 2 = .ok (.putfield 208, 3) := by decide +kernel
theorem dX12_claim_5 : decode cX12_claim 5 = .ok (.aload_n 0, 1) := by decide +kernel
theorem dX12_claim_6 : decode cX12_claim 6 = .ok (.iload_n 1, 1) := by decide +kernel
theorem dX12_claim_7 : decode cX12_claim 7 = .ok (.invokevirtual 239, 3) := by decide +kernel
theorem dX12_claim_10 : decode cX12_claim 10 = .ok (.ifCond .eq 11, 3) := by decide +kernel
theorem dX12_claim_13 : decode cX12_claim 13 = .ok (.aload_n 0, 1) := by decide +kernel
theorem dX12_claim_14 : decode cX12_claim 14 = .ok (.iload_n 2, 1) := by decide +kernel
theorem dX12_claim_15 : decode cX12_claim 15 = .ok (.invokevirtual 270, 3) := by decide +kernel
theorem dX12_claim_18 : decode cX12_claim 18 = .ok (.ifCond .ne 5, 3) := by decide +kernel
theorem dX12_claim_21 : decode cX12_claim 21 = .ok (.iconst 0, 1) := by decide +kernel
theorem dX12_claim_22 : decode cX12_claim 22 = .ok (.ireturn, 1) := by decide +kernel
theorem dX12_claim_23 : decode cX12_claim 23 = .ok (.aload_n 0, 1) := by decide +kernel
theorem dX12_claim_24 : decode cX12_claim 24 = .ok (.getfield 273, 3) := by decide +kernel
theorem dX12_claim_27 : decode cX12_claim 27 = .ok (.sipush 200, 3) := by decide +kernel
theorem dX12_claim_30 : decode cX12_claim 30 = .ok (.if_icmp .ne 7, 3) := by decide +kernel
theorem dX12_claim_33 : decode cX12_claim 33 = .ok (.iconst 1, 1) := by decide +kernel
theorem dX12_claim_34 : decode cX12_claim 34 = .ok (.goto 4, 3) := by decide +kernel
theorem dX12_claim_37 : decode cX12_claim 37 = .ok (.iconst 0, 1) := by decide +kernel
theorem dX12_claim_38 : decode cX12_claim 38 = .ok (.istore_n 3, 1) := by decide +kernel
theorem dX12_claim_39 : decode cX12_claim 39 = .ok (.iconst 0, 1) := by decide +kernel
theorem dX12_claim_40 : decode cX12_claim 40 = .ok (.istore 4, 2) := by decide +kernel
theorem dX12_claim_42 : decode cX12_claim 42 = .ok (.iload 4, 2) := by decide +kernel
theorem dX12_claim_44 : decode cX12_claim 44 = .ok (.aload_n 0, 1) := by decide +kernel
theorem dX12_claim_45 : decode cX12_claim 45 = .ok (.getfield 273, 3) := by decide +kernel
theorem dX12_claim_48 : decode cX12_claim 48 = .ok (.if_icmp .ge 41, 3) := by decide +kernel
theorem dX12_claim_51 : decode cX12_claim 51 = .ok (.iload_n 3, 1) := by decide +kernel
theorem dX12_claim_52 : decode cX12_claim 52 = .ok (.ifCond .ne 25, 3) := by decide +kernel
theorem dX12_claim_55 : decode cX12_claim 55 = .ok (.aload_n 0, 1) := by decide +kernel
theorem dX12_claim_56 : decode cX12_claim 56 = .ok (.getfield 89, 3) := by decide +kernel
theorem dX12_claim_59 : decode cX12_claim 59 = .ok (.iload 4, 2) := by decide +kernel
theorem dX12_claim_61 : decode cX12_claim 61 = .ok (.iaload, 1) := by decide +kernel
theorem dX12_claim_62 : decode cX12_claim 62 = .ok (.iload_n 1, 1) := by decide +kernel
