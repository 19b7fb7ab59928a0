theorem tb_app : lw_tbl = k2_sels lw_privs ++ tables_1 := rfl
theorem t_1 : ∀ w, w ∈ tables_1_1 → w ∈ lw_tbl := fun w h => List.mem_append_right (k2_sels lw_privs) (show w ∈ tables_1 from List.mem_append_left _ h)
theorem t_2 : ∀ w, w ∈ tables_1_2 → w ∈ lw_tbl := fun w h => List.mem_append_right (k2_sels lw_privs) (show w ∈ tables_1 from List.mem_append_right _ (List.mem_append_left _ h))
theorem t_3 : ∀ w, w ∈ tables_1_3 → w ∈ lw_tbl := fun w h => List.mem_append_right (k2_sels lw_privs) (show w ∈ tables_1 from List.mem_append_right _ (List.mem_append_right _ (List.mem_append_left _ h)))
theorem t_4 : ∀ w, w ∈ tables_1_4 → w ∈ lw_tbl := fun w h => List.mem_append_right (k2_sels lw_privs) (show w ∈ tables_1 from List.mem_append_right _ (List.mem_append_right _ (List.mem_append_right _ (List.mem_append_left _ h))))
theorem t_5 : ∀ w, w ∈ tables_1_5 → w ∈ lw_tbl := fun w h => List.mem_append_right (k2_sels lw_privs) (show w ∈ tables_1 from List.mem_append_right _ (List.mem_append_right _ (List.mem_append_right _ (List.mem_append_right _ (List.mem_append_left _ h)))))
theorem t_6 : ∀ w, w ∈ tables_1_6 → w ∈ lw_tbl := fun w h => List.mem_append_right (k2_sels lw_privs) (show w ∈ tables_1 from List.mem_append_right _ (List.mem_append_right _ (List.mem_append_right _ (List.mem_append_right _ (List.mem_append_right _ (List.mem_append_left _ h))))))
theorem t_7 : ∀ w, w ∈ tables_1_7 → w ∈ lw_tbl := fun w h => List.mem_append_right (k2_sels lw_privs) (show w ∈ tables_1 from List.mem_append_right _ (List.mem_append_right _ (List.mem_append_right _ (List.mem_append_right _ (List.mem_append_right _ (List.mem_append_right _ (List.mem_append_left _ h)))))))
theorem t_8 : ∀ w, w ∈ tables_1_8 → w ∈ lw_tbl := fun w h => List.mem_append_right (k2_sels lw_privs) (show w ∈ tables_1 from List.mem_append_right _ (List.mem_append_right _ (List.mem_append_right _ (List.mem_append_right _ (List.mem_append_right _ (List.mem_append_right _ (List.mem_append_right _ (List.mem_append_left _ h))))))))
theorem t_9 : ∀ w, w ∈ tables_1_9 → w ∈ lw_tbl := fun w h => List.mem_append_right (k2_sels lw_privs) (show w ∈ tables_1 from List.mem_append_right _ (List.mem_append_right _ (List.mem_append_right _ (List.mem_append_right _ (List.mem_append_right _ (List.mem_append_right _ (List.mem_append_right _ (List.mem_append_right _ (h)))))))))
theorem uw_X0 : ∀ w ∈ u_ws RX0 TX0 19, w ∈ BW := fun w hw => bw ((by decide +kernel : ∀ w ∈ u_ws RX0 TX0 19, w ∈ lw_tbl) w hw) ((by decide +kernel : ∀ w ∈ u_ws RX0 TX0 19, goodWord w = true) w hw)
theorem vq_0 : vwCl[0]? = some (RX0, TX0, 19) := rfl
theorem uw_X1 : ∀ w ∈ u_ws RX1 TX1 16, w ∈ BW := fun w hw => bw ((by decide +kernel : ∀ w ∈ u_ws RX1 TX1 16, w ∈ lw_tbl) w hw) ((by decide +kernel : ∀ w ∈ u_ws RX1 TX1 16, goodWord w = true) w hw)
theorem vq_1 : vwCl[1]? = some (RX1, TX1, 16) := rfl
theorem uw_X2 : ∀ w ∈ u_ws RX2 TX2 5, w ∈ BW := fun w hw => bw ((by decide +kernel : ∀ w ∈ u_ws RX2 TX2 5, w ∈ lw_tbl) w hw) ((by decide +kernel : ∀ w ∈ u_ws RX2 TX2 5, goodWord w = true) w hw)
theorem vq_2 : vwCl[2]? = some (RX2, TX2, 5) := rfl
theorem uw_X3 : ∀ w ∈ u_ws RX3 TX3 13, w ∈ BW := fun w hw => bw ((by decide +kernel : ∀ w ∈ u_ws RX3 TX3 13, w ∈ lw_tbl) w hw) ((by decide +kernel : ∀ w ∈ u_ws RX3 TX3 13, goodWord w = true) w hw)
theorem vq_3 : vwCl[3]? = some (RX3, TX3, 13) := rfl
theorem uw_X4 : ∀ w ∈ u_ws RX4 TX4 16, w ∈ BW := fun w hw => bw ((by decide +kernel : ∀ w ∈ u_ws RX4 TX4 16, w ∈ lw_tbl) w hw) ((by decide +kernel : ∀ w ∈ u_ws RX4 TX4 16, goodWord w = true) w hw)
theorem vq_4 : vwCl[4]? = some (RX4, TX4, 16) := rfl
theorem uw_X5 : ∀ w ∈ u_ws RX5 TX5 2, w ∈ BW := fun w hw => bw ((by decide +kernel : ∀ w ∈ u_ws RX5 TX5 2, w ∈ lw_tbl) w hw) ((by decide +kernel : ∀ w ∈ u_ws RX5 TX5 2, goodWord w = true) w hw)
theorem vq_5 : vwCl[5]? = some (RX5, TX5, 2) := rfl
theorem uw_X6 : ∀ w ∈ u_ws RX6 TX6 3, w ∈ BW := fun w hw => bw ((by decide +kernel : ∀ w ∈ u_ws RX6 TX6 3, w ∈ lw_tbl) w hw) ((by decide +kernel : ∀ w ∈ u_ws RX6 TX6 3, goodWord w = true) w hw)
theorem vq_6 : vwCl[6]? = some (RX6, TX6, 3) := rfl
theorem uw_X7 : ∀ w ∈ u_ws RX7 TX7 11, w ∈ BW := fun w hw => bw ((by decide +kernel : ∀ w ∈ u_ws RX7 TX7 11, w ∈ lw_tbl) w hw) ((by decide +kernel : ∀ w ∈ u_ws RX7 TX7 11, goodWord w = true) w hw)
theorem vq_7 : vwCl[7]? = some (RX7, TX7, 11) := rfl
theorem uw_X8 : ∀ w ∈ u_ws RX8 TX8 2, w ∈ BW := fun w hw => bw ((by decide +kernel : ∀ w ∈ u_ws RX8 TX8 2, w ∈ lw_tbl) w hw) ((by decide +kernel : ∀ w ∈ u_ws RX8 TX8 2, goodWord w = true) w hw)
theorem vq_8 : vwCl[8]? = some (RX8, TX8, 2) := rfl
theorem uw_X10 : ∀ w ∈ u_ws RX10 TX10 8, w ∈ BW := fun w hw => bw ((by decide +kernel : ∀ w ∈ u_ws RX10 TX10 8, w ∈ lw_tbl) w hw) ((by decide +kernel : ∀ w ∈ u_ws RX10 TX10 8, goodWord w = true) w hw)
theorem vq_9 : vwCl[9]? = some (RX10, TX10, 8) := rfl
theorem uw_X11 : ∀ w ∈ u_ws RX11 TX11 9, w ∈ BW := fun w hw => bw ((by decide +kernel : ∀ w ∈ u_ws RX11 TX11 9, w ∈ lw_tbl) w hw) ((by decide +kernel : ∀ w ∈ u_ws RX11 TX11 9, goodWord w = true) w hw)
theorem vq_10 : vwCl[10]? = some (RX11, TX11, 9) := rfl
theorem uw_X12 : ∀ w ∈ u_ws RX12 TX12 101, w ∈ BW := fun w hw => bw ((by decide +kernel : ∀ w ∈ u_ws RX12 TX12 101, w ∈ lw_tbl) w hw) ((by decide +kernel : ∀ w ∈ u_ws RX12 TX12 101, goodWord w = true) w hw)
theorem vq_11 : vwCl[11]? = some (RX12, TX12, 101) := rfl
theorem ks_32 {σ : Sto} : KD true σ 32 11 0 := KD.st (List.mem_of_getElem? (i := 0) rfl)
theorem ko_32 {σ : Sto} : KO true σ 32 11 := KO.st (n := 0) (List.mem_of_getElem? (i := 0) rfl)
theorem ks_33 {σ : Sto} : KD true σ 33 2 0 := KD.st (List.mem_of_getElem? (i := 1) rfl)
theorem ko_33 {σ : Sto} : KO true σ 33 2 := KO.st (n := 0) (List.mem_of_getElem? (i := 1) rfl)
theorem ks_34 {σ : Sto} : KD true σ 34 103 31 := KD.st (List.mem_of_getElem? (i := 2) rfl)
theorem ks_35 {σ : Sto} : KD true σ 35 104 31 := KD.st (List.mem_of_getElem? (i := 3) rfl)
theorem ks_36 {σ : Sto} : KD true σ 36 105 6 := KD.st (List.mem_of_getElem? (i := 4) rfl)
theorem ks_37 {σ : Sto} : KD true σ 37 106 61 := KD.st (List.mem_of_getElem? (i := 5) rfl)
theorem ks_38 {σ : Sto} : KD true σ 38 107 201 := KD.st (List.mem_of_getElem? (i := 6) rfl)
theorem ks_39 {σ : Sto} : KD true σ 39 107 201 := KD.st (List.mem_of_getElem? (i := 7) rfl)
theorem ks_40 {σ : Sto} : KD true σ 40 108 13 := KD.st (List.mem_of_getElem? (i := 8) rfl)
theorem ks_41 {σ : Sto} : KD true σ 41 6 0 := KD.st (List.mem_of_getElem? (i := 9) rfl)
theorem ko_41 {σ : Sto} : KO true σ 41 6 := KO.st (n := 0) (List.mem_of_getElem? (i := 9) rfl)
theorem ks_42 {σ : Sto} : KD true σ 42 10 0 := KD.st (List.mem_of_getElem? (i := 10) rfl)
theorem ko_42 {σ : Sto} : KO true σ 42 10 := KO.st (n := 0) (List.mem_of_getElem? (i := 10) rfl)
theorem ks_43 {σ : Sto} : KD true σ 43 100 3 := KD.st (List.mem_of_getElem? (i := 11) rfl)
theorem ks_44 {σ : Sto} : KD true σ 44 100 3 := KD.st (List.mem_of_getElem? (i := 12) rfl)
theorem ks_45 {σ : Sto} : KD true σ 45 9 0 := KD.st (List.mem_of_getElem? (i := 13) rfl)
theorem ko_45 {σ : Sto} : KO true σ 45 9 := KO.st (n := 0) (List.mem_of_getElem? (i := 13) rfl)
theorem ks_46 {σ : Sto} : KD true σ 46 7 0 := KD.st (List.mem_of_getElem? (i := 14) rfl)
theorem ko_46 {σ : Sto} : KO true σ 46 7 := KO.st (n := 0) (List.mem_of_getElem? (i := 14) rfl)
theorem ks_47 {σ : Sto} : KD true σ 47 4 0 := KD.st (List.mem_of_getElem? (i := 15) rfl)
theorem ko_47 {σ : Sto} : KO true σ 47 4 := KO.st (n := 0) (List.mem_of_getElem? (i := 15) rfl)
theorem ks_48 {σ : Sto} : KD true σ 48 5 0 := KD.st (List.mem_of_getElem? (i := 16) rfl)
theorem ko_48 {σ : Sto} : KO true σ 48 5 := KO.st (n := 0) (List.mem_of_getElem? (i := 16) rfl)
theorem ks_49 {σ : Sto} : KD true σ 49 100 16 := KD.st (List.mem_of_getElem? (i := 17) rfl)
theorem ks_50 {σ : Sto} : KD true σ 50 100 16 := KD.st (List.mem_of_getElem? (i := 18) rfl)
theorem ks_51 {σ : Sto} : KD true σ 51 100 500 := KD.st (List.mem_of_getElem? (i := 19) rfl)
theorem ks_52 {σ : Sto} : KD true σ 52 100 64 := KD.st (List.mem_of_getElem? (i := 20) rfl)
theorem ks_53 {σ : Sto} : KD true σ 53 1 0 := KD.st (List.mem_of_getElem? (i := 21) rfl)
theorem ko_53 {σ : Sto} : KO true σ 53 1 := KO.st (n := 0) (List.mem_of_getElem? (i := 21) rfl)
theorem ks_54 {σ : Sto} : KD true σ 54 100 30 := KD.st (List.mem_of_getElem? (i := 22) rfl)
theorem ks_55 {σ : Sto} : KD true σ 55 100 30 := KD.st (List.mem_of_getElem? (i := 23) rfl)
theorem ks_56 {σ : Sto} : KD true σ 56 100 10 := KD.st (List.mem_of_getElem? (i := 24) rfl)
theorem ks_57 {σ : Sto} : KD true σ 57 100 30 := KD.st (List.mem_of_getElem? (i := 25) rfl)
theorem ks_58 {σ : Sto} : KD true σ 58 100 30 := KD.st (List.mem_of_getElem? (i := 26) rfl)
theorem ks_59 {σ : Sto} : KD true σ 59 100 30 := KD.st (List.mem_of_getElem? (i := 27) rfl)
theorem ks_60 {σ : Sto} : KD true σ 60 100 30 := KD.st (List.mem_of_getElem? (i := 28) rfl)
theorem ks_61 {σ : Sto} : KD true σ 61 100 30 := KD.st (List.mem_of_getElem? (i := 29) rfl)
theorem ks_62 {σ : Sto} : KD true σ 62 100 30 := KD.st (List.mem_of_getElem? (i := 30) rfl)
theorem ks_63 {σ : Sto} : KD true σ 63 3 0 := KD.st (List.mem_of_getElem? (i := 31) rfl)
theorem ko_63 {σ : Sto} : KO true σ 63 3 := KO.st (n := 0) (List.mem_of_getElem? (i := 31) rfl)
theorem ks_64 {σ : Sto} : KD true σ 64 101 25 := KD.st (List.mem_of_getElem? (i := 32) rfl)
theorem ks_65 {σ : Sto} : KD true σ 65 101 32 := KD.st (List.mem_of_getElem? (i := 33) rfl)
theorem ks_66 {σ : Sto} : KD true σ 66 100 32 := KD.st (List.mem_of_getElem? (i := 34) rfl)
theorem ks_67 {σ : Sto} : KD true σ 67 8 0 := KD.st (List.mem_of_getElem? (i := 35) rfl)
theorem ko_67 {σ : Sto} : KO true σ 67 8 := KO.st (n := 0) (List.mem_of_getElem? (i := 35) rfl)
theorem ks_68 {σ : Sto} : KD true σ 68 100 0 := KD.st (List.mem_of_getElem? (i := 36) rfl)
theorem ks_69 {σ : Sto} : KD true σ 69 5 0 := KD.st (List.mem_of_getElem? (i := 37) rfl)
theorem ko_69 {σ : Sto} : KO true σ 69 5 := KO.st (n := 0) (List.mem_of_getElem? (i := 37) rfl)
theorem ks_70 {σ : Sto} : KD true σ 70 100 16 := KD.st (List.mem_of_getElem? (i := 38) rfl)
theorem ks_71 {σ : Sto} : KD true σ 71 100 16 := KD.st (List.mem_of_getElem? (i := 39) rfl)
theorem ks_72 {σ : Sto} : KD true σ 72 100 500 := KD.st (List.mem_of_getElem? (i := 40) rfl)
theorem ks_73 {σ : Sto} : KD true σ 73 100 64 := KD.st (List.mem_of_getElem? (i := 41) rfl)
theorem ks_74 {σ : Sto} : KD true σ 74 100 500 := KD.st (List.mem_of_getElem? (i := 42) rfl)
theorem ks_75 {σ : Sto} : KD true σ 75 5 0 := KD.st (List.mem_of_getElem? (i := 43) rfl)
theorem ko_75 {σ : Sto} : KO true σ 75 5 := KO.st (n := 0) (List.mem_of_getElem? (i := 43) rfl)
theorem ks_76 {σ : Sto} : KD true σ 76 100 16 := KD.st (List.mem_of_getElem? (i := 44) rfl)
theorem ks_77 {σ : Sto} : KD true σ 77 100 16 := KD.st (List.mem_of_getElem? (i := 45) rfl)
theorem ks_78 {σ : Sto} : KD true σ 78 100 500 := KD.st (List.mem_of_getElem? (i := 46) rfl)
theorem ks_79 {σ : Sto} : KD true σ 79 100 64 := KD.st (List.mem_of_getElem? (i := 47) rfl)
theorem ks_80 {σ : Sto} : KD true σ 80 101 30 := KD.st (List.mem_of_getElem? (i := 48) rfl)
theorem ks_81 {σ : Sto} : KD true σ 81 12 0 := KD.st (List.mem_of_getElem? (i := 49) rfl)
theorem ko_81 {σ : Sto} : KO true σ 81 12 := KO.st (n := 0) (List.mem_of_getElem? (i := 49) rfl)
theorem ks_82 {σ : Sto} : KD true σ 82 100 30 := KD.st (List.mem_of_getElem? (i := 50) rfl)
theorem ks_83 {σ : Sto} : KD true σ 83 100 30 := KD.st (List.mem_of_getElem? (i := 51) rfl)
theorem ks_84 {σ : Sto} : KD true σ 84 100 30 := KD.st (List.mem_of_getElem? (i := 52) rfl)
theorem ks_85 {σ : Sto} : KD true σ 85 100 90 := KD.st (List.mem_of_getElem? (i := 53) rfl)
theorem ks_86 {σ : Sto} : KD true σ 86 100 90 := KD.st (List.mem_of_getElem? (i := 54) rfl)
theorem ks_87 {σ : Sto} : KD true σ 87 100 30 := KD.st (List.mem_of_getElem? (i := 55) rfl)
theorem ks_88 {σ : Sto} : KD true σ 88 100 30 := KD.st (List.mem_of_getElem? (i := 56) rfl)
theorem ks_89 {σ : Sto} : KD true σ 89 100 30 := KD.st (List.mem_of_getElem? (i := 57) rfl)
theorem ks_90 {σ : Sto} : KD true σ 90 100 30 := KD.st (List.mem_of_getElem? (i := 58) rfl)
theorem ks_91 {σ : Sto} : KD true σ 91 102 30 := KD.st (List.mem_of_getElem? (i := 59) rfl)
theorem ks_92 {σ : Sto} : KD true σ 92 100 5 := KD.st (List.mem_of_getElem? (i := 60) rfl)
theorem ks_93 {σ : Sto} : KD true σ 93 100 5 := KD.st (List.mem_of_getElem? (i := 61) rfl)
theorem ks_94 {σ : Sto} : KD true σ 94 100 60 := KD.st (List.mem_of_getElem? (i := 62) rfl)
theorem ks_95 {σ : Sto} : KD true σ 95 100 60 := KD.st (List.mem_of_getElem? (i := 63) rfl)
theorem ks_96 {σ : Sto} : KD true σ 96 100 60 := KD.st (List.mem_of_getElem? (i := 64) rfl)
theorem ks_97 {σ : Sto} : KD true σ 97 100 200 := KD.st (List.mem_of_getElem? (i := 65) rfl)
theorem ks_98 {σ : Sto} : KD true σ 98 100 200 := KD.st (List.mem_of_getElem? (i := 66) rfl)
theorem ks_99 {σ : Sto} : KD true σ 99 100 200 := KD.st (List.mem_of_getElem? (i := 67) rfl)
theorem ks_100 {σ : Sto} : KD true σ 100 100 200 := KD.st (List.mem_of_getElem? (i := 68) rfl)
theorem ks_101 {σ : Sto} : KD true σ 101 100 200 := KD.st (List.mem_of_getElem? (i := 69) rfl)
theorem ks_102 {σ : Sto} : KD true σ 102 100 200 := KD.st (List.mem_of_getElem? (i := 70) rfl)
theorem ks_103 {σ : Sto} : KD true σ 103 100 200 := KD.st (List.mem_of_getElem? (i := 71) rfl)
theorem ks_104 {σ : Sto} : KD true σ 104 100 200 := KD.st (List.mem_of_getElem? (i := 72) rfl)
theorem ks_105 {σ : Sto} : KD true σ 105 100 200 := KD.st (List.mem_of_getElem? (i := 73) rfl)
theorem ks_106 {σ : Sto} : KD true σ 106 100 200 := KD.st (List.mem_of_getElem? (i := 74) rfl)
theorem ks_107 {σ : Sto} : KD true σ 107 100 200 := KD.st (List.mem_of_getElem? (i := 75) rfl)
theorem ks_108 {σ : Sto} : KD true σ 108 100 200 := KD.st (List.mem_of_getElem? (i := 76) rfl)
theorem ks_109 {σ : Sto} : KD true σ 109 100 200 := KD.st (List.mem_of_getElem? (i := 77) rfl)
theorem ks_110 {σ : Sto} : KD true σ 110 100 200 := KD.st (List.mem_of_getElem? (i := 78) rfl)
theorem ks_111 {σ : Sto} : KD true σ 111 100 500 := KD.st (List.mem_of_getElem? (i := 79) rfl)
theorem ks_112 {σ : Sto} : KD true σ 112 100 13 := KD.st (List.mem_of_getElem? (i := 80) rfl)
theorem ks_113 {σ : Sto} : KD true σ 113 100 13 := KD.st (List.mem_of_getElem? (i := 81) rfl)
theorem ks_114 {σ : Sto} : KD true σ 114 100 13 := KD.st (List.mem_of_getElem? (i := 82) rfl)
theorem ks_115 {σ : Sto} : KD true σ 115 100 13 := KD.st (List.mem_of_getElem? (i := 83) rfl)
theorem ks_116 {σ : Sto} : KD true σ 116 100 13 := KD.st (List.mem_of_getElem? (i := 84) rfl)
theorem ks_117 {σ : Sto} : KD true σ 117 100 13 := KD.st (List.mem_of_getElem? (i := 85) rfl)
theorem ks_118 {σ : Sto} : KD true σ 118 100 13 := KD.st (List.mem_of_getElem? (i := 86) rfl)
theorem ks_119 {σ : Sto} : KD true σ 119 100 13 := KD.st (List.mem_of_getElem? (i := 87) rfl)
theorem ks_120 {σ : Sto} : KD true σ 120 100 13 := KD.st (List.mem_of_getElem? (i := 88) rfl)
theorem ks_121 {σ : Sto} : KD true σ 121 100 13 := KD.st (List.mem_of_getElem? (i := 89) rfl)
theorem ks_122 {σ : Sto} : KD true σ 122 100 13 := KD.st (List.mem_of_getElem? (i := 90) rfl)
theorem ks_123 {σ : Sto} : KD true σ 123 100 13 := KD.st (List.mem_of_getElem? (i := 91) rfl)
theorem ks_124 {σ : Sto} : KD true σ 124 100 208 := KD.st (List.mem_of_getElem? (i := 92) rfl)
theorem ks_125 {σ : Sto} : KD true σ 125 100 208 := KD.st (List.mem_of_getElem? (i := 93) rfl)
theorem ks_126 {σ : Sto} : KD true σ 126 100 15800 := KD.st (List.mem_of_getElem? (i := 94) rfl)
theorem ks_127 {σ : Sto} : KD true σ 127 100 520 := KD.st (List.mem_of_getElem? (i := 95) rfl)
theorem ks_128 {σ : Sto} : KD true σ 128 102 9 := KD.st (List.mem_of_getElem? (i := 96) rfl)
theorem ks_129 {σ : Sto} : KD true σ 129 100 30 := KD.st (List.mem_of_getElem? (i := 97) rfl)
theorem ks_130 {σ : Sto} : KD true σ 130 100 30 := KD.st (List.mem_of_getElem? (i := 98) rfl)
theorem ks_131 {σ : Sto} : KD true σ 131 100 31 := KD.st (List.mem_of_getElem? (i := 99) rfl)
theorem ks_132 {σ : Sto} : KD true σ 132 100 200 := KD.st (List.mem_of_getElem? (i := 100) rfl)
theorem ks_133 {σ : Sto} : KD true σ 133 100 10 := KD.st (List.mem_of_getElem? (i := 101) rfl)
theorem ks_134 {σ : Sto} : KD true σ 134 100 520 := KD.st (List.mem_of_getElem? (i := 102) rfl)
theorem ks_135 {σ : Sto} : KD true σ 135 100 30 := KD.st (List.mem_of_getElem? (i := 103) rfl)
theorem ks_136 {σ : Sto} : KD true σ 136 100 30 := KD.st (List.mem_of_getElem? (i := 104) rfl)
theorem ks_137 {σ : Sto} : KD true σ 137 100 30 := KD.st (List.mem_of_getElem? (i := 105) rfl)
theorem ks_138 {σ : Sto} : KD true σ 138 100 30 := KD.st (List.mem_of_getElem? (i := 106) rfl)
theorem ks_139 {σ : Sto} : KD true σ 139 100 30 := KD.st (List.mem_of_getElem? (i := 107) rfl)
theorem ks_140 {σ : Sto} : KD true σ 140 100 30 := KD.st (List.mem_of_getElem? (i := 108) rfl)
theorem ks_141 {σ : Sto} : KD true σ 141 100 30 := KD.st (List.mem_of_getElem? (i := 109) rfl)
theorem ks_142 {σ : Sto} : KD true σ 142 101 25 := KD.st (List.mem_of_getElem? (i := 110) rfl)
theorem ks_143 {σ : Sto} : KD true σ 143 100 32 := KD.st (List.mem_of_getElem? (i := 111) rfl)
theorem ks_144 {σ : Sto} : KD true σ 144 100 200 := KD.st (List.mem_of_getElem? (i := 112) rfl)
theorem ks_145 {σ : Sto} : KD true σ 145 101 30 := KD.st (List.mem_of_getElem? (i := 113) rfl)
theorem ks_146 {σ : Sto} : KD true σ 146 101 1 := KD.st (List.mem_of_getElem? (i := 114) rfl)
theorem fn_32_0 : (32, 10, 0, 33) ∈ FINL := List.mem_of_getElem? (i := 0) rfl
theorem fn_32_1 : (32, 10, 1, 53) ∈ FINL := List.mem_of_getElem? (i := 1) rfl
theorem fn_32_2 : (32, 10, 2, 63) ∈ FINL := List.mem_of_getElem? (i := 2) rfl
theorem fn_32_3 : (32, 10, 3, 67) ∈ FINL := List.mem_of_getElem? (i := 3) rfl
theorem fn_32_4 : (32, 10, 4, 74) ∈ FINL := List.mem_of_getElem? (i := 4) rfl
theorem fn_32_8 : (32, 10, 8, 80) ∈ FINL := List.mem_of_getElem? (i := 5) rfl
theorem fn_33_2 : (33, 1, 2, 34) ∈ FINL := List.mem_of_getElem? (i := 6) rfl
theorem fn_33_4 : (33, 1, 4, 35) ∈ FINL := List.mem_of_getElem? (i := 7) rfl
theorem fn_33_6 : (33, 1, 6, 36) ∈ FINL := List.mem_of_getElem? (i := 8) rfl
theorem fn_33_8 : (33, 1, 8, 37) ∈ FINL := List.mem_of_getElem? (i := 9) rfl
theorem fn_33_10 : (33, 1, 10, 38) ∈ FINL := List.mem_of_getElem? (i := 10) rfl
theorem fn_33_12 : (33, 1, 12, 39) ∈ FINL := List.mem_of_getElem? (i := 11) rfl
theorem fn_33_14 : (33, 1, 14, 40) ∈ FINL := List.mem_of_getElem? (i := 12) rfl
theorem fn_53_0 : (53, 0, 0, 33) ∈ FINL := List.mem_of_getElem? (i := 13) rfl
theorem fn_53_2 : (53, 0, 2, 54) ∈ FINL := List.mem_of_getElem? (i := 14) rfl
theorem fn_53_3 : (53, 0, 3, 55) ∈ FINL := List.mem_of_getElem? (i := 15) rfl
theorem fn_53_4 : (53, 0, 4, 56) ∈ FINL := List.mem_of_getElem? (i := 16) rfl
theorem fn_53_13 : (53, 0, 13, 57) ∈ FINL := List.mem_of_getElem? (i := 17) rfl
theorem fn_53_14 : (53, 0, 14, 58) ∈ FINL := List.mem_of_getElem? (i := 18) rfl
theorem fn_53_15 : (53, 0, 15, 59) ∈ FINL := List.mem_of_getElem? (i := 19) rfl
theorem fn_53_16 : (53, 0, 16, 60) ∈ FINL := List.mem_of_getElem? (i := 20) rfl
theorem fn_53_17 : (53, 0, 17, 61) ∈ FINL := List.mem_of_getElem? (i := 21) rfl
theorem fn_53_18 : (53, 0, 18, 62) ∈ FINL := List.mem_of_getElem? (i := 22) rfl
theorem fn_63_0 : (63, 2, 0, 33) ∈ FINL := List.mem_of_getElem? (i := 23) rfl
theorem fn_63_1 : (63, 2, 1, 53) ∈ FINL := List.mem_of_getElem? (i := 24) rfl
theorem fn_63_2 : (63, 2, 2, 64) ∈ FINL := List.mem_of_getElem? (i := 25) rfl
theorem fn_63_3 : (63, 2, 3, 65) ∈ FINL := List.mem_of_getElem? (i := 26) rfl
theorem fn_63_4 : (63, 2, 4, 66) ∈ FINL := List.mem_of_getElem? (i := 27) rfl
theorem fn_81_9 : (81, 11, 9, 82) ∈ FINL := List.mem_of_getElem? (i := 28) rfl
theorem fn_81_10 : (81, 11, 10, 83) ∈ FINL := List.mem_of_getElem? (i := 29) rfl
theorem fn_81_11 : (81, 11, 11, 84) ∈ FINL := List.mem_of_getElem? (i := 30) rfl
theorem fn_81_12 : (81, 11, 12, 85) ∈ FINL := List.mem_of_getElem? (i := 31) rfl
theorem fn_81_13 : (81, 11, 13, 86) ∈ FINL := List.mem_of_getElem? (i := 32) rfl
theorem fn_81_14 : (81, 11, 14, 87) ∈ FINL := List.mem_of_getElem? (i := 33) rfl
theorem fn_81_15 : (81, 11, 15, 88) ∈ FINL := List.mem_of_getElem? (i := 34) rfl
theorem fn_81_16 : (81, 11, 16, 89) ∈ FINL := List.mem_of_getElem? (i := 35) rfl
theorem fn_81_17 : (81, 11, 17, 90) ∈ FINL := List.mem_of_getElem? (i := 36) rfl
theorem fn_81_18 : (81, 11, 18, 91) ∈ FINL := List.mem_of_getElem? (i := 37) rfl
theorem fn_81_19 : (81, 11, 19, 92) ∈ FINL := List.mem_of_getElem? (i := 38) rfl
theorem fn_81_20 : (81, 11, 20, 93) ∈ FINL := List.mem_of_getElem? (i := 39) rfl
theorem fn_81_21 : (81, 11, 21, 94) ∈ FINL := List.mem_of_getElem? (i := 40) rfl
theorem fn_81_22 : (81, 11, 22, 95) ∈ FINL := List.mem_of_getElem? (i := 41) rfl
theorem fn_81_23 : (81, 11, 23, 96) ∈ FINL := List.mem_of_getElem? (i := 42) rfl
theorem fn_81_24 : (81, 11, 24, 97) ∈ FINL := List.mem_of_getElem? (i := 43) rfl
theorem fn_81_25 : (81, 11, 25, 98) ∈ FINL := List.mem_of_getElem? (i := 44) rfl
theorem fn_81_26 : (81, 11, 26, 99) ∈ FINL := List.mem_of_getElem? (i := 45) rfl
theorem fn_81_27 : (81, 11, 27, 100) ∈ FINL := List.mem_of_getElem? (i := 46) rfl
theorem fn_81_28 : (81, 11, 28, 101) ∈ FINL := List.mem_of_getElem? (i := 47) rfl
theorem fn_81_29 : (81, 11, 29, 102) ∈ FINL := List.mem_of_getElem? (i := 48) rfl
theorem fn_81_30 : (81, 11, 30, 103) ∈ FINL := List.mem_of_getElem? (i := 49) rfl
theorem fn_81_31 : (81, 11, 31, 104) ∈ FINL := List.mem_of_getElem? (i := 50) rfl
theorem fn_81_32 : (81, 11, 32, 105) ∈ FINL := List.mem_of_getElem? (i := 51) rfl
theorem fn_81_33 : (81, 11, 33, 106) ∈ FINL := List.mem_of_getElem? (i := 52) rfl
theorem fn_81_34 : (81, 11, 34, 107) ∈ FINL := List.mem_of_getElem? (i := 53) rfl
theorem fn_81_35 : (81, 11, 35, 108) ∈ FINL := List.mem_of_getElem? (i := 54) rfl
theorem fn_81_36 : (81, 11, 36, 109) ∈ FINL := List.mem_of_getElem? (i := 55) rfl
theorem fn_81_37 : (81, 11, 37, 110) ∈ FINL := List.mem_of_getElem? (i := 56) rfl
theorem fn_81_38 : (81, 11, 38, 111) ∈ FINL := List.mem_of_getElem? (i := 57) rfl
theorem fn_81_55 : (81, 11, 55, 112) ∈ FINL := List.mem_of_getElem? (i := 58) rfl
theorem fn_81_56 : (81, 11, 56, 113) ∈ FINL := List.mem_of_getElem? (i := 59) rfl
theorem fn_81_57 : (81, 11, 57, 114) ∈ FINL := List.mem_of_getElem? (i := 60) rfl
theorem fn_81_58 : (81, 11, 58, 115) ∈ FINL := List.mem_of_getElem? (i := 61) rfl
theorem fn_81_59 : (81, 11, 59, 116) ∈ FINL := List.mem_of_getElem? (i := 62) rfl
theorem fn_81_60 : (81, 11, 60, 117) ∈ FINL := List.mem_of_getElem? (i := 63) rfl
theorem fn_81_61 : (81, 11, 61, 118) ∈ FINL := List.mem_of_getElem? (i := 64) rfl
theorem fn_81_62 : (81, 11, 62, 119) ∈ FINL := List.mem_of_getElem? (i := 65) rfl
theorem fn_81_63 : (81, 11, 63, 120) ∈ FINL := List.mem_of_getElem? (i := 66) rfl
theorem fn_81_64 : (81, 11, 64, 121) ∈ FINL := List.mem_of_getElem? (i := 67) rfl
theorem fn_81_65 : (81, 11, 65, 122) ∈ FINL := List.mem_of_getElem? (i := 68) rfl
theorem fn_81_66 : (81, 11, 66, 123) ∈ FINL := List.mem_of_getElem? (i := 69) rfl
theorem fn_81_67 : (81, 11, 67, 124) ∈ FINL := List.mem_of_getElem? (i := 70) rfl
theorem fn_81_68 : (81, 11, 68, 125) ∈ FINL := List.mem_of_getElem? (i := 71) rfl
theorem fn_81_69 : (81, 11, 69, 126) ∈ FINL := List.mem_of_getElem? (i := 72) rfl
theorem fn_81_70 : (81, 11, 70, 127) ∈ FINL := List.mem_of_getElem? (i := 73) rfl
theorem fn_81_71 : (81, 11, 71, 128) ∈ FINL := List.mem_of_getElem? (i := 74) rfl
theorem fn_81_74 : (81, 11, 74, 129) ∈ FINL := List.mem_of_getElem? (i := 75) rfl
theorem fn_81_75 : (81, 11, 75, 130) ∈ FINL := List.mem_of_getElem? (i := 76) rfl
theorem fn_81_76 : (81, 11, 76, 131) ∈ FINL := List.mem_of_getElem? (i := 77) rfl
theorem fn_81_77 : (81, 11, 77, 132) ∈ FINL := List.mem_of_getElem? (i := 78) rfl
theorem fn_81_87 : (81, 11, 87, 133) ∈ FINL := List.mem_of_getElem? (i := 79) rfl
theorem fn_81_88 : (81, 11, 88, 134) ∈ FINL := List.mem_of_getElem? (i := 80) rfl
theorem fn_81_89 : (81, 11, 89, 135) ∈ FINL := List.mem_of_getElem? (i := 81) rfl
theorem fn_81_90 : (81, 11, 90, 136) ∈ FINL := List.mem_of_getElem? (i := 82) rfl
theorem fn_81_91 : (81, 11, 91, 137) ∈ FINL := List.mem_of_getElem? (i := 83) rfl
theorem fn_81_92 : (81, 11, 92, 138) ∈ FINL := List.mem_of_getElem? (i := 84) rfl
theorem fn_81_93 : (81, 11, 93, 139) ∈ FINL := List.mem_of_getElem? (i := 85) rfl
theorem fn_81_94 : (81, 11, 94, 140) ∈ FINL := List.mem_of_getElem? (i := 86) rfl
theorem fn_81_95 : (81, 11, 95, 141) ∈ FINL := List.mem_of_getElem? (i := 87) rfl
theorem fn_81_96 : (81, 11, 96, 142) ∈ FINL := List.mem_of_getElem? (i := 88) rfl
theorem fn_81_97 : (81, 11, 97, 143) ∈ FINL := List.mem_of_getElem? (i := 89) rfl
theorem fn_81_99 : (81, 11, 99, 144) ∈ FINL := List.mem_of_getElem? (i := 90) rfl
theorem fn_81_100 : (81, 11, 100, 145) ∈ FINL := List.mem_of_getElem? (i := 91) rfl
theorem fl_X0_182_4 : FL RX0 182 4 2 := ⟨(RX4, TX4, 16), "SalePart$Law", rfl, uw_X4, Nat.le_of_ble_eq_true rfl, (bw (t_1 _ (List.mem_of_getElem? (i := 227) rfl)) rfl), Or.inl rfl⟩
theorem fl_X0_27_0 : FL RX0 27 0 7 := ⟨(RX0, TX0, 19), "SalePart$Account", rfl, uw_X0, Nat.le_of_ble_eq_true rfl, (bw (t_2 _ (List.mem_of_getElem? (i := 131) rfl)) rfl), Or.inl rfl⟩
theorem fl_X0_183_4 : FL RX0 183 4 8 := ⟨(RX4, TX4, 16), "SalePart$Law", rfl, uw_X4, Nat.le_of_ble_eq_true rfl, (bw (t_1 _ (List.mem_of_getElem? (i := 239) rfl)) rfl), Or.inl rfl⟩
theorem fl_X0_24_0 : FL RX0 24 0 4 := ⟨(RX0, TX0, 19), "SalePart$Account", rfl, uw_X0, Nat.le_of_ble_eq_true rfl, (bw (t_2 _ (List.mem_of_getElem? (i := 128) rfl)) rfl), Or.inl rfl⟩
theorem fl_X0_82_0 : FL RX0 82 0 6 := ⟨(RX0, TX0, 19), "SalePart$Account", rfl, uw_X0, Nat.le_of_ble_eq_true rfl, (bw (t_2 _ (List.mem_of_getElem? (i := 130) rfl)) rfl), Or.inl rfl⟩
theorem fl_X0_74_0 : FL RX0 74 0 5 := ⟨(RX0, TX0, 19), "SalePart$Account", rfl, uw_X0, Nat.le_of_ble_eq_true rfl, (bw (t_2 _ (List.mem_of_getElem? (i := 129) rfl)) rfl), Or.inl rfl⟩
theorem fl_X0_99_3 : FL RX0 99 3 4 := ⟨(RX3, TX3, 13), "SalePart$Fact", rfl, uw_X3, Nat.le_of_ble_eq_true rfl, (bw (t_1 _ (List.mem_of_getElem? (i := 150) rfl)) rfl), Or.inl rfl⟩
theorem fl_X0_36_0 : FL RX0 36 0 10 := ⟨(RX0, TX0, 19), "SalePart$Account", rfl, uw_X0, Nat.le_of_ble_eq_true rfl, (bw (t_2 _ (List.mem_of_getElem? (i := 137) rfl)) rfl), Or.inl rfl⟩
theorem fp_X0_0_10 : FP RX0 0 10 false := ⟨(RX0, TX0, 19), rfl, rfl, fun h => nomatch h⟩
theorem fl_X0_40_0 : FL RX0 40 0 11 := ⟨(RX0, TX0, 19), "SalePart$Account", rfl, uw_X0, Nat.le_of_ble_eq_true rfl, (bw (t_2 _ (List.mem_of_getElem? (i := 139) rfl)) rfl), Or.inl rfl⟩
theorem fp_X0_0_11 : FP RX0 0 11 false := ⟨(RX0, TX0, 19), rfl, rfl, fun h => nomatch h⟩
theorem fl_X0_49_0 : FL RX0 49 0 14 := ⟨(RX0, TX0, 19), "SalePart$Account", rfl, uw_X0, Nat.le_of_ble_eq_true rfl, (bw (t_2 _ (List.mem_of_getElem? (i := 145) rfl)) rfl), Or.inl rfl⟩
theorem fl_X0_46_0 : FL RX0 46 0 13 := ⟨(RX0, TX0, 19), "SalePart$Account", rfl, uw_X0, Nat.le_of_ble_eq_true rfl, (bw (t_2 _ (List.mem_of_getElem? (i := 143) rfl)) rfl), Or.inl rfl⟩
theorem fl_X0_201_9 : FL RX0 201 9 7 := ⟨(RX10, TX10, 8), "SalePart$Work", rfl, uw_X10, Nat.le_of_ble_eq_true rfl, (bw (t_1 _ (List.mem_of_getElem? (i := 81) rfl)) rfl), Or.inl rfl⟩
theorem fl_X0_64_0 : FL RX0 64 0 0 := ⟨(RX0, TX0, 19), "SalePart$Account", rfl, uw_X0, Nat.le_of_ble_eq_true rfl, (bw (t_2 _ (List.mem_of_getElem? (i := 124) rfl)) rfl), Or.inl rfl⟩
theorem fl_X0_168_5 : FL RX0 168 5 1 := ⟨(RX5, TX5, 2), "SalePart$Person", rfl, uw_X5, Nat.le_of_ble_eq_true rfl, (bw (t_1 _ (List.mem_of_getElem? (i := 59) rfl)) rfl), Or.inl rfl⟩
theorem fl_X0_151_3 : FL RX0 151 3 5 := ⟨(RX3, TX3, 13), "SalePart$Fact", rfl, uw_X3, Nat.le_of_ble_eq_true rfl, (bw (t_1 _ (List.mem_of_getElem? (i := 154) rfl)) rfl), Or.inl rfl⟩
theorem fl_X0_173_3 : FL RX0 173 3 12 := ⟨(RX3, TX3, 13), "SalePart$Fact", rfl, uw_X3, Nat.le_of_ble_eq_true rfl, (bw (t_1 _ (List.mem_of_getElem? (i := 180) rfl)) rfl), Or.inl rfl⟩
theorem fl_X0_30_0 : FL RX0 30 0 8 := ⟨(RX0, TX0, 19), "SalePart$Account", rfl, uw_X0, Nat.le_of_ble_eq_true rfl, (bw (t_2 _ (List.mem_of_getElem? (i := 133) rfl)) rfl), Or.inl rfl⟩
theorem fl_X0_33_0 : FL RX0 33 0 9 := ⟨(RX0, TX0, 19), "SalePart$Account", rfl, uw_X0, Nat.le_of_ble_eq_true rfl, (bw (t_2 _ (List.mem_of_getElem? (i := 135) rfl)) rfl), Or.inl rfl⟩
theorem fl_X0_176_9 : FL RX0 176 9 6 := ⟨(RX10, TX10, 8), "SalePart$Work", rfl, uw_X10, Nat.le_of_ble_eq_true rfl, (bw (t_1 _ (List.mem_of_getElem? (i := 78) rfl)) rfl), Or.inl rfl⟩
theorem fl_X0_179_9 : FL RX0 179 9 0 := ⟨(RX10, TX10, 8), "SalePart$Work", rfl, uw_X10, Nat.le_of_ble_eq_true rfl, (bw (t_1 _ (List.mem_of_getElem? (i := 71) rfl)) rfl), Or.inl rfl⟩
theorem fl_X0_55_0 : FL RX0 55 0 16 := ⟨(RX0, TX0, 19), "SalePart$Account", rfl, uw_X0, Nat.le_of_ble_eq_true rfl, (bw (t_2 _ (List.mem_of_getElem? (i := 150) rfl)) rfl), Or.inl rfl⟩
theorem fl_X0_87_1 : FL RX0 87 1 11 := ⟨(RX1, TX1, 16), "SalePart$Books", rfl, uw_X1, Nat.le_of_ble_eq_true rfl, (bw (t_2 _ (List.mem_of_getElem? (i := 67) rfl)) rfl), Or.inl rfl⟩
theorem fl_X0_90_3 : FL RX0 90 3 2 := ⟨(RX3, TX3, 13), "SalePart$Fact", rfl, uw_X3, Nat.le_of_ble_eq_true rfl, (bw (t_1 _ (List.mem_of_getElem? (i := 143) rfl)) rfl), Or.inl rfl⟩
theorem fl_X0_9_0 : FL RX0 9 0 1 := ⟨(RX0, TX0, 19), "SalePart$Account", rfl, uw_X0, Nat.le_of_ble_eq_true rfl, (bw (t_2 _ (List.mem_of_getElem? (i := 125) rfl)) rfl), Or.inl rfl⟩
theorem fl_X0_218_3 : FL RX0 218 3 9 := ⟨(RX3, TX3, 13), "SalePart$Fact", rfl, uw_X3, Nat.le_of_ble_eq_true rfl, (bw (t_1 _ (List.mem_of_getElem? (i := 169) rfl)) rfl), Or.inl rfl⟩
theorem fl_X0_52_0 : FL RX0 52 0 15 := ⟨(RX0, TX0, 19), "SalePart$Account", rfl, uw_X0, Nat.le_of_ble_eq_true rfl, (bw (t_2 _ (List.mem_of_getElem? (i := 147) rfl)) rfl), Or.inl rfl⟩
theorem fl_X0_221_3 : FL RX0 221 3 8 := ⟨(RX3, TX3, 13), "SalePart$Fact", rfl, uw_X3, Nat.le_of_ble_eq_true rfl, (bw (t_1 _ (List.mem_of_getElem? (i := 165) rfl)) rfl), Or.inl rfl⟩
theorem fl_X0_43_0 : FL RX0 43 0 12 := ⟨(RX0, TX0, 19), "SalePart$Account", rfl, uw_X0, Nat.le_of_ble_eq_true rfl, (bw (t_2 _ (List.mem_of_getElem? (i := 141) rfl)) rfl), Or.inl rfl⟩
theorem fp_X0_0_12 : FP RX0 0 12 false := ⟨(RX0, TX0, 19), rfl, rfl, fun h => nomatch h⟩
theorem fl_X0_58_0 : FL RX0 58 0 17 := ⟨(RX0, TX0, 19), "SalePart$Account", rfl, uw_X0, Nat.le_of_ble_eq_true rfl, (bw (t_2 _ (List.mem_of_getElem? (i := 151) rfl)) rfl), Or.inl rfl⟩
theorem fl_X0_235_8 : FL RX0 235 8 1 := ⟨(RX8, TX8, 2), "SalePart$Society", rfl, uw_X8, Nat.le_of_ble_eq_true rfl, (bw (t_1 _ (List.mem_of_getElem? (i := 108) rfl)) rfl), Or.inl rfl⟩
theorem fl_X0_246_3 : FL RX0 246 3 0 := ⟨(RX3, TX3, 13), "SalePart$Fact", rfl, uw_X3, Nat.le_of_ble_eq_true rfl, (bw (t_1 _ (List.mem_of_getElem? (i := 185) rfl)) rfl), Or.inr (bw (t_1 _ (List.mem_of_getElem? (i := 184) rfl)) rfl)⟩
theorem fl_X0_249_4 : FL RX0 249 4 11 := ⟨(RX4, TX4, 16), "SalePart$Law", rfl, uw_X4, Nat.le_of_ble_eq_true rfl, (bw (t_2 _ (List.mem_of_getElem? (i := 8) rfl)) rfl), Or.inl rfl⟩
theorem fp_X0_0_1 : FP RX0 0 1 false := ⟨(RX0, TX0, 19), rfl, rfl, fun h => nomatch h⟩
theorem fl_X0_15_0 : FL RX0 15 0 2 := ⟨(RX0, TX0, 19), "SalePart$Account", rfl, uw_X0, Nat.le_of_ble_eq_true rfl, (bw (t_2 _ (List.mem_of_getElem? (i := 126) rfl)) rfl), Or.inl rfl⟩
theorem fp_X0_0_2 : FP RX0 0 2 true := ⟨(RX0, TX0, 19), rfl, rfl, fun _ => rfl⟩
theorem fl_X0_19_0 : FL RX0 19 0 3 := ⟨(RX0, TX0, 19), "SalePart$Account", rfl, uw_X0, Nat.le_of_ble_eq_true rfl, (bw (t_2 _ (List.mem_of_getElem? (i := 127) rfl)) rfl), Or.inl rfl⟩
theorem fp_X0_0_3 : FP RX0 0 3 true := ⟨(RX0, TX0, 19), rfl, rfl, fun _ => rfl⟩
theorem fp_X0_0_4 : FP RX0 0 4 true := ⟨(RX0, TX0, 19), rfl, rfl, fun _ => rfl⟩
theorem fp_X0_0_7 : FP RX0 0 7 false := ⟨(RX0, TX0, 19), rfl, rfl, fun h => nomatch h⟩
theorem fp_X0_0_8 : FP RX0 0 8 false := ⟨(RX0, TX0, 19), rfl, rfl, fun h => nomatch h⟩
theorem fp_X0_0_9 : FP RX0 0 9 false := ⟨(RX0, TX0, 19), rfl, rfl, fun h => nomatch h⟩
theorem fp_X0_0_13 : FP RX0 0 13 true := ⟨(RX0, TX0, 19), rfl, rfl, fun _ => rfl⟩
theorem fp_X0_0_14 : FP RX0 0 14 true := ⟨(RX0, TX0, 19), rfl, rfl, fun _ => rfl⟩
theorem fp_X0_0_15 : FP RX0 0 15 true := ⟨(RX0, TX0, 19), rfl, rfl, fun _ => rfl⟩
theorem fp_X0_0_16 : FP RX0 0 16 true := ⟨(RX0, TX0, 19), rfl, rfl, fun _ => rfl⟩
theorem fp_X0_0_17 : FP RX0 0 17 true := ⟨(RX0, TX0, 19), rfl, rfl, fun _ => rfl⟩
theorem fl_X0_61_0 : FL RX0 61 0 18 := ⟨(RX0, TX0, 19), "SalePart$Account", rfl, uw_X0, Nat.le_of_ble_eq_true rfl, (bw (t_2 _ (List.mem_of_getElem? (i := 153) rfl)) rfl), Or.inl rfl⟩
theorem fp_X0_0_18 : FP RX0 0 18 true := ⟨(RX0, TX0, 19), rfl, rfl, fun _ => rfl⟩
theorem fp_X0_0_0 : FP RX0 0 0 true := ⟨(RX0, TX0, 19), rfl, rfl, fun _ => rfl⟩
theorem fp_X0_0_5 : FP RX0 0 5 false := ⟨(RX0, TX0, 19), rfl, rfl, fun h => nomatch h⟩
theorem fp_X0_0_6 : FP RX0 0 6 false := ⟨(RX0, TX0, 19), rfl, rfl, fun h => nomatch h⟩
theorem fl_X0_106_3 : FL RX0 106 3 6 := ⟨(RX3, TX3, 13), "SalePart$Fact", rfl, uw_X3, Nat.le_of_ble_eq_true rfl, (bw (t_1 _ (List.mem_of_getElem? (i := 158) rfl)) rfl), Or.inl rfl⟩
theorem fl_X0_138_3 : FL RX0 138 3 3 := ⟨(RX3, TX3, 13), "SalePart$Fact", rfl, uw_X3, Nat.le_of_ble_eq_true rfl, (bw (t_1 _ (List.mem_of_getElem? (i := 147) rfl)) rfl), Or.inl rfl⟩
theorem fl_X0_141_3 : FL RX0 141 3 11 := ⟨(RX3, TX3, 13), "SalePart$Fact", rfl, uw_X3, Nat.le_of_ble_eq_true rfl, (bw (t_1 _ (List.mem_of_getElem? (i := 177) rfl)) rfl), Or.inl rfl⟩
theorem fl_X0_116_3 : FL RX0 116 3 10 := ⟨(RX3, TX3, 13), "SalePart$Fact", rfl, uw_X3, Nat.le_of_ble_eq_true rfl, (bw (t_1 _ (List.mem_of_getElem? (i := 174) rfl)) rfl), Or.inl rfl⟩
theorem fl_X0_109_3 : FL RX0 109 3 7 := ⟨(RX3, TX3, 13), "SalePart$Fact", rfl, uw_X3, Nat.le_of_ble_eq_true rfl, (bw (t_1 _ (List.mem_of_getElem? (i := 162) rfl)) rfl), Or.inl rfl⟩
theorem fl_X0_204_4 : FL RX0 204 4 10 := ⟨(RX4, TX4, 16), "SalePart$Law", rfl, uw_X4, Nat.le_of_ble_eq_true rfl, (bw (t_2 _ (List.mem_of_getElem? (i := 4) rfl)) rfl), Or.inl rfl⟩
theorem fl_X0_207_5 : FL RX0 207 5 0 := ⟨(RX5, TX5, 2), "SalePart$Person", rfl, uw_X5, Nat.le_of_ble_eq_true rfl, (bw (t_1 _ (List.mem_of_getElem? (i := 57) rfl)) rfl), Or.inl rfl⟩
theorem fl_X1_56_1 : FL RX1 56 1 10 := ⟨(RX1, TX1, 16), "SalePart$Books", rfl, uw_X1, Nat.le_of_ble_eq_true rfl, (bw (t_2 _ (List.mem_of_getElem? (i := 64) rfl)) rfl), Or.inl rfl⟩
theorem fl_X1_60_1 : FL RX1 60 1 11 := ⟨(RX1, TX1, 16), "SalePart$Books", rfl, uw_X1, Nat.le_of_ble_eq_true rfl, (bw (t_2 _ (List.mem_of_getElem? (i := 65) rfl)) rfl), Or.inl rfl⟩
theorem fp_X1_1_11 : FP RX1 1 11 false := ⟨(RX1, TX1, 16), rfl, rfl, fun h => nomatch h⟩
theorem fl_X1_63_1 : FL RX1 63 1 12 := ⟨(RX1, TX1, 16), "SalePart$Books", rfl, uw_X1, Nat.le_of_ble_eq_true rfl, (bw (t_2 _ (List.mem_of_getElem? (i := 69) rfl)) rfl), Or.inl rfl⟩
theorem fl_X1_66_1 : FL RX1 66 1 13 := ⟨(RX1, TX1, 16), "SalePart$Books", rfl, uw_X1, Nat.le_of_ble_eq_true rfl, (bw (t_2 _ (List.mem_of_getElem? (i := 71) rfl)) rfl), Or.inl rfl⟩
theorem fl_X1_107_3 : FL RX1 107 3 4 := ⟨(RX3, TX3, 13), "SalePart$Fact", rfl, uw_X3, Nat.le_of_ble_eq_true rfl, (bw (t_1 _ (List.mem_of_getElem? (i := 151) rfl)) rfl), Or.inl rfl⟩
theorem fl_X1_104_3 : FL RX1 104 3 3 := ⟨(RX3, TX3, 13), "SalePart$Fact", rfl, uw_X3, Nat.le_of_ble_eq_true rfl, (bw (t_1 _ (List.mem_of_getElem? (i := 148) rfl)) rfl), Or.inl rfl⟩
theorem fl_X1_42_1 : FL RX1 42 1 7 := ⟨(RX1, TX1, 16), "SalePart$Books", rfl, uw_X1, Nat.le_of_ble_eq_true rfl, (bw (t_2 _ (List.mem_of_getElem? (i := 58) rfl)) rfl), Or.inl rfl⟩
theorem fl_X1_151_8 : FL RX1 151 8 0 := ⟨(RX8, TX8, 2), "SalePart$Society", rfl, uw_X8, Nat.le_of_ble_eq_true rfl, (bw (t_1 _ (List.mem_of_getElem? (i := 106) rfl)) rfl), Or.inl rfl⟩
theorem fl_X1_152_3 : FL RX1 152 3 6 := ⟨(RX3, TX3, 13), "SalePart$Fact", rfl, uw_X3, Nat.le_of_ble_eq_true rfl, (bw (t_1 _ (List.mem_of_getElem? (i := 159) rfl)) rfl), Or.inl rfl⟩
theorem fl_X1_101_3 : FL RX1 101 3 2 := ⟨(RX3, TX3, 13), "SalePart$Fact", rfl, uw_X3, Nat.le_of_ble_eq_true rfl, (bw (t_1 _ (List.mem_of_getElem? (i := 144) rfl)) rfl), Or.inl rfl⟩
theorem fl_X1_9_1 : FL RX1 9 1 0 := ⟨(RX1, TX1, 16), "SalePart$Books", rfl, uw_X1, Nat.le_of_ble_eq_true rfl, (bw (t_2 _ (List.mem_of_getElem? (i := 44) rfl)) rfl), Or.inl rfl⟩
theorem fl_X1_114_3 : FL RX1 114 3 8 := ⟨(RX3, TX3, 13), "SalePart$Fact", rfl, uw_X3, Nat.le_of_ble_eq_true rfl, (bw (t_1 _ (List.mem_of_getElem? (i := 167) rfl)) rfl), Or.inl rfl⟩
theorem fl_X1_117_3 : FL RX1 117 3 9 := ⟨(RX3, TX3, 13), "SalePart$Fact", rfl, uw_X3, Nat.le_of_ble_eq_true rfl, (bw (t_1 _ (List.mem_of_getElem? (i := 171) rfl)) rfl), Or.inl rfl⟩
theorem fp_X1_1_0 : FP RX1 1 0 false := ⟨(RX1, TX1, 16), rfl, rfl, fun h => nomatch h⟩
theorem fl_X1_15_1 : FL RX1 15 1 1 := ⟨(RX1, TX1, 16), "SalePart$Books", rfl, uw_X1, Nat.le_of_ble_eq_true rfl, (bw (t_2 _ (List.mem_of_getElem? (i := 46) rfl)) rfl), Or.inl rfl⟩
theorem fp_X1_1_1 : FP RX1 1 1 false := ⟨(RX1, TX1, 16), rfl, rfl, fun h => nomatch h⟩
theorem fl_X1_20_1 : FL RX1 20 1 2 := ⟨(RX1, TX1, 16), "SalePart$Books", rfl, uw_X1, Nat.le_of_ble_eq_true rfl, (bw (t_2 _ (List.mem_of_getElem? (i := 48) rfl)) rfl), Or.inl rfl⟩
theorem fp_X1_1_2 : FP RX1 1 2 true := ⟨(RX1, TX1, 16), rfl, rfl, fun _ => rfl⟩
theorem fl_X1_24_1 : FL RX1 24 1 3 := ⟨(RX1, TX1, 16), "SalePart$Books", rfl, uw_X1, Nat.le_of_ble_eq_true rfl, (bw (t_2 _ (List.mem_of_getElem? (i := 50) rfl)) rfl), Or.inl rfl⟩
theorem fp_X1_1_3 : FP RX1 1 3 false := ⟨(RX1, TX1, 16), rfl, rfl, fun h => nomatch h⟩
theorem fl_X1_29_1 : FL RX1 29 1 4 := ⟨(RX1, TX1, 16), "SalePart$Books", rfl, uw_X1, Nat.le_of_ble_eq_true rfl, (bw (t_2 _ (List.mem_of_getElem? (i := 52) rfl)) rfl), Or.inl rfl⟩
theorem fp_X1_1_4 : FP RX1 1 4 true := ⟨(RX1, TX1, 16), rfl, rfl, fun _ => rfl⟩
theorem fl_X1_33_1 : FL RX1 33 1 5 := ⟨(RX1, TX1, 16), "SalePart$Books", rfl, uw_X1, Nat.le_of_ble_eq_true rfl, (bw (t_2 _ (List.mem_of_getElem? (i := 54) rfl)) rfl), Or.inl rfl⟩
theorem fp_X1_1_5 : FP RX1 1 5 false := ⟨(RX1, TX1, 16), rfl, rfl, fun h => nomatch h⟩
theorem fl_X1_38_1 : FL RX1 38 1 6 := ⟨(RX1, TX1, 16), "SalePart$Books", rfl, uw_X1, Nat.le_of_ble_eq_true rfl, (bw (t_2 _ (List.mem_of_getElem? (i := 56) rfl)) rfl), Or.inl rfl⟩
theorem fp_X1_1_6 : FP RX1 1 6 true := ⟨(RX1, TX1, 16), rfl, rfl, fun _ => rfl⟩
theorem fp_X1_1_7 : FP RX1 1 7 false := ⟨(RX1, TX1, 16), rfl, rfl, fun h => nomatch h⟩
theorem fl_X1_47_1 : FL RX1 47 1 8 := ⟨(RX1, TX1, 16), "SalePart$Books", rfl, uw_X1, Nat.le_of_ble_eq_true rfl, (bw (t_2 _ (List.mem_of_getElem? (i := 60) rfl)) rfl), Or.inl rfl⟩
theorem fp_X1_1_8 : FP RX1 1 8 true := ⟨(RX1, TX1, 16), rfl, rfl, fun _ => rfl⟩
theorem fl_X1_51_1 : FL RX1 51 1 9 := ⟨(RX1, TX1, 16), "SalePart$Books", rfl, uw_X1, Nat.le_of_ble_eq_true rfl, (bw (t_2 _ (List.mem_of_getElem? (i := 62) rfl)) rfl), Or.inl rfl⟩
theorem fp_X1_1_9 : FP RX1 1 9 false := ⟨(RX1, TX1, 16), rfl, rfl, fun h => nomatch h⟩
theorem fp_X1_1_10 : FP RX1 1 10 true := ⟨(RX1, TX1, 16), rfl, rfl, fun _ => rfl⟩
theorem fp_X1_1_12 : FP RX1 1 12 true := ⟨(RX1, TX1, 16), rfl, rfl, fun _ => rfl⟩
theorem fp_X1_1_13 : FP RX1 1 13 false := ⟨(RX1, TX1, 16), rfl, rfl, fun h => nomatch h⟩
theorem fl_X1_71_1 : FL RX1 71 1 14 := ⟨(RX1, TX1, 16), "SalePart$Books", rfl, uw_X1, Nat.le_of_ble_eq_true rfl, (bw (t_2 _ (List.mem_of_getElem? (i := 73) rfl)) rfl), Or.inl rfl⟩
theorem fp_X1_1_14 : FP RX1 1 14 true := ⟨(RX1, TX1, 16), rfl, rfl, fun _ => rfl⟩
theorem fl_X1_75_1 : FL RX1 75 1 15 := ⟨(RX1, TX1, 16), "SalePart$Books", rfl, uw_X1, Nat.le_of_ble_eq_true rfl, (bw (t_2 _ (List.mem_of_getElem? (i := 75) rfl)) rfl), Or.inl rfl⟩
theorem fp_X1_1_15 : FP RX1 1 15 false := ⟨(RX1, TX1, 16), rfl, rfl, fun h => nomatch h⟩
theorem fl_X1_144_4 : FL RX1 144 4 2 := ⟨(RX4, TX4, 16), "SalePart$Law", rfl, uw_X4, Nat.le_of_ble_eq_true rfl, (bw (t_1 _ (List.mem_of_getElem? (i := 228) rfl)) rfl), Or.inl rfl⟩
theorem fl_X1_145_4 : FL RX1 145 4 3 := ⟨(RX4, TX4, 16), "SalePart$Law", rfl, uw_X4, Nat.le_of_ble_eq_true rfl, (bw (t_1 _ (List.mem_of_getElem? (i := 231) rfl)) rfl), Or.inl rfl⟩
theorem fl_X1_155_3 : FL RX1 155 3 5 := ⟨(RX3, TX3, 13), "SalePart$Fact", rfl, uw_X3, Nat.le_of_ble_eq_true rfl, (bw (t_1 _ (List.mem_of_getElem? (i := 155) rfl)) rfl), Or.inl rfl⟩
theorem fl_X1_131_6 : FL RX1 131 6 0 := ⟨(RX6, TX6, 3), "SalePart$Rate", rfl, uw_X6, Nat.le_of_ble_eq_true rfl, (bw (t_1 _ (List.mem_of_getElem? (i := 120) rfl)) rfl), Or.inl rfl⟩
theorem fl_X1_134_6 : FL RX1 134 6 1 := ⟨(RX6, TX6, 3), "SalePart$Rate", rfl, uw_X6, Nat.le_of_ble_eq_true rfl, (bw (t_1 _ (List.mem_of_getElem? (i := 122) rfl)) rfl), Or.inl rfl⟩
theorem fl_X1_137_6 : FL RX1 137 6 2 := ⟨(RX6, TX6, 3), "SalePart$Rate", rfl, uw_X6, Nat.le_of_ble_eq_true rfl, (bw (t_1 _ (List.mem_of_getElem? (i := 124) rfl)) rfl), Or.inl rfl⟩
theorem fl_X10_18_9 : FL RX10 18 9 6 := ⟨(RX10, TX10, 8), "SalePart$Work", rfl, uw_X10, Nat.le_of_ble_eq_true rfl, (bw (t_1 _ (List.mem_of_getElem? (i := 77) rfl)) rfl), Or.inl rfl⟩
theorem fl_X10_9_9 : FL RX10 9 9 4 := ⟨(RX10, TX10, 8), "SalePart$Work", rfl, uw_X10, Nat.le_of_ble_eq_true rfl, (bw (t_1 _ (List.mem_of_getElem? (i := 75) rfl)) rfl), Or.inl rfl⟩
theorem fl_X10_15_9 : FL RX10 15 9 5 := ⟨(RX10, TX10, 8), "SalePart$Work", rfl, uw_X10, Nat.le_of_ble_eq_true rfl, (bw (t_1 _ (List.mem_of_getElem? (i := 76) rfl)) rfl), Or.inl rfl⟩
theorem fp_X10_9_6 : FP RX10 9 6 false := ⟨(RX10, TX10, 8), rfl, rfl, fun h => nomatch h⟩
theorem fl_X10_22_9 : FL RX10 22 9 7 := ⟨(RX10, TX10, 8), "SalePart$Work", rfl, uw_X10, Nat.le_of_ble_eq_true rfl, (bw (t_1 _ (List.mem_of_getElem? (i := 80) rfl)) rfl), Or.inl rfl⟩
theorem fp_X10_9_7 : FP RX10 9 7 false := ⟨(RX10, TX10, 8), rfl, rfl, fun h => nomatch h⟩
theorem fp_X10_9_4 : FP RX10 9 4 true := ⟨(RX10, TX10, 8), rfl, rfl, fun _ => rfl⟩
theorem fp_X10_9_5 : FP RX10 9 5 true := ⟨(RX10, TX10, 8), rfl, rfl, fun _ => rfl⟩
theorem fl_X10_25_9 : FL RX10 25 9 0 := ⟨(RX10, TX10, 8), "SalePart$Work", rfl, uw_X10, Nat.le_of_ble_eq_true rfl, (bw (t_1 _ (List.mem_of_getElem? (i := 70) rfl)) rfl), Or.inl rfl⟩
theorem fp_X10_9_0 : FP RX10 9 0 true := ⟨(RX10, TX10, 8), rfl, rfl, fun _ => rfl⟩
theorem fl_X10_28_9 : FL RX10 28 9 1 := ⟨(RX10, TX10, 8), "SalePart$Work", rfl, uw_X10, Nat.le_of_ble_eq_true rfl, (bw (t_1 _ (List.mem_of_getElem? (i := 72) rfl)) rfl), Or.inl rfl⟩
theorem fp_X10_9_1 : FP RX10 9 1 true := ⟨(RX10, TX10, 8), rfl, rfl, fun _ => rfl⟩
theorem fl_X10_31_9 : FL RX10 31 9 2 := ⟨(RX10, TX10, 8), "SalePart$Work", rfl, uw_X10, Nat.le_of_ble_eq_true rfl, (bw (t_1 _ (List.mem_of_getElem? (i := 73) rfl)) rfl), Or.inl rfl⟩
theorem fp_X10_9_2 : FP RX10 9 2 true := ⟨(RX10, TX10, 8), rfl, rfl, fun _ => rfl⟩
theorem fl_X10_34_9 : FL RX10 34 9 3 := ⟨(RX10, TX10, 8), "SalePart$Work", rfl, uw_X10, Nat.le_of_ble_eq_true rfl, (bw (t_1 _ (List.mem_of_getElem? (i := 74) rfl)) rfl), Or.inl rfl⟩
theorem fp_X10_9_3 : FP RX10 9 3 true := ⟨(RX10, TX10, 8), rfl, rfl, fun _ => rfl⟩
theorem fl_X11_59_10 : FL RX11 59 10 8 := ⟨(RX11, TX11, 9), "SalePart", rfl, uw_X11, Nat.le_of_ble_eq_true rfl, (bw (t_3 _ (List.mem_of_getElem? (i := 30) rfl)) rfl), Or.inl rfl⟩
theorem fl_X11_21_10 : FL RX11 21 10 1 := ⟨(RX11, TX11, 9), "SalePart", rfl, uw_X11, Nat.le_of_ble_eq_true rfl, (bw (t_3 _ (List.mem_of_getElem? (i := 23) rfl)) rfl), Or.inl rfl⟩
theorem fl_X11_298_0 : FL RX11 298 0 13 := ⟨(RX0, TX0, 19), "SalePart$Account", rfl, uw_X0, Nat.le_of_ble_eq_true rfl, (bw (t_2 _ (List.mem_of_getElem? (i := 144) rfl)) rfl), Or.inl rfl⟩
theorem fl_X11_10_10 : FL RX11 10 10 0 := ⟨(RX11, TX11, 9), "SalePart", rfl, uw_X11, Nat.le_of_ble_eq_true rfl, (bw (t_3 _ (List.mem_of_getElem? (i := 22) rfl)) rfl), Or.inl rfl⟩
theorem fl_X11_107_1 : FL RX11 107 1 5 := ⟨(RX1, TX1, 16), "SalePart$Books", rfl, uw_X1, Nat.le_of_ble_eq_true rfl, (bw (t_2 _ (List.mem_of_getElem? (i := 55) rfl)) rfl), Or.inl rfl⟩
theorem fl_X11_206_1 : FL RX11 206 1 15 := ⟨(RX1, TX1, 16), "SalePart$Books", rfl, uw_X1, Nat.le_of_ble_eq_true rfl, (bw (t_2 _ (List.mem_of_getElem? (i := 76) rfl)) rfl), Or.inl rfl⟩
theorem fl_X11_209_1 : FL RX11 209 1 11 := ⟨(RX1, TX1, 16), "SalePart$Books", rfl, uw_X1, Nat.le_of_ble_eq_true rfl, (bw (t_2 _ (List.mem_of_getElem? (i := 68) rfl)) rfl), Or.inl rfl⟩
theorem fl_X11_222_3 : FL RX11 222 3 1 := ⟨(RX3, TX3, 13), "SalePart$Told", rfl, uw_X3, Nat.le_of_ble_eq_true rfl, (bw (t_1 _ (List.mem_of_getElem? (i := 189) rfl)) rfl), Or.inl rfl⟩
theorem fl_X11_222_4 : FL RX11 222 4 1 := ⟨(RX4, TX4, 16), "SalePart$Told", rfl, uw_X4, Nat.le_of_ble_eq_true rfl, (bw (t_1 _ (List.mem_of_getElem? (i := 189) rfl)) rfl), Or.inl rfl⟩
theorem fl_X11_148_1 : FL RX11 148 1 0 := ⟨(RX1, TX1, 16), "SalePart$Books", rfl, uw_X1, Nat.le_of_ble_eq_true rfl, (bw (t_2 _ (List.mem_of_getElem? (i := 45) rfl)) rfl), Or.inl rfl⟩
theorem fp_X11_3_1 : FP RX11 3 1 false := ⟨(RX3, TX3, 13), rfl, rfl, fun h => nomatch h⟩
theorem fp_X11_4_1 : FP RX11 4 1 false := ⟨(RX4, TX4, 16), rfl, rfl, fun h => nomatch h⟩
theorem fl_X11_231_1 : FL RX11 231 1 13 := ⟨(RX1, TX1, 16), "SalePart$Books", rfl, uw_X1, Nat.le_of_ble_eq_true rfl, (bw (t_2 _ (List.mem_of_getElem? (i := 72) rfl)) rfl), Or.inl rfl⟩
theorem fl_X11_237_1 : FL RX11 237 1 12 := ⟨(RX1, TX1, 16), "SalePart$Books", rfl, uw_X1, Nat.le_of_ble_eq_true rfl, (bw (t_2 _ (List.mem_of_getElem? (i := 70) rfl)) rfl), Or.inl rfl⟩
theorem fp_X11_1_13 : FP RX11 1 13 false := ⟨(RX1, TX1, 16), rfl, rfl, fun h => nomatch h⟩
theorem fl_X11_63_1 : FL RX11 63 1 1 := ⟨(RX1, TX1, 16), "SalePart$Books", rfl, uw_X1, Nat.le_of_ble_eq_true rfl, (bw (t_2 _ (List.mem_of_getElem? (i := 47) rfl)) rfl), Or.inl rfl⟩
theorem fl_X11_91_1 : FL RX11 91 1 3 := ⟨(RX1, TX1, 16), "SalePart$Books", rfl, uw_X1, Nat.le_of_ble_eq_true rfl, (bw (t_2 _ (List.mem_of_getElem? (i := 51) rfl)) rfl), Or.inl rfl⟩
theorem fl_X11_138_1 : FL RX11 138 1 7 := ⟨(RX1, TX1, 16), "SalePart$Books", rfl, uw_X1, Nat.le_of_ble_eq_true rfl, (bw (t_2 _ (List.mem_of_getElem? (i := 59) rfl)) rfl), Or.inl rfl⟩
theorem fl_X11_45_10 : FL RX11 45 10 5 := ⟨(RX11, TX11, 9), "SalePart", rfl, uw_X11, Nat.le_of_ble_eq_true rfl, (bw (t_3 _ (List.mem_of_getElem? (i := 27) rfl)) rfl), Or.inl rfl⟩
theorem fl_X11_167_3 : FL RX11 167 3 7 := ⟨(RX3, TX3, 13), "SalePart$Fact", rfl, uw_X3, Nat.le_of_ble_eq_true rfl, (bw (t_1 _ (List.mem_of_getElem? (i := 163) rfl)) rfl), Or.inl rfl⟩
theorem fp_X11_3_7 : FP RX11 3 7 false := ⟨(RX3, TX3, 13), rfl, rfl, fun h => nomatch h⟩
theorem fp_X11_1_0 : FP RX11 1 0 false := ⟨(RX1, TX1, 16), rfl, rfl, fun h => nomatch h⟩
theorem fl_X11_49_10 : FL RX11 49 10 6 := ⟨(RX11, TX11, 9), "SalePart", rfl, uw_X11, Nat.le_of_ble_eq_true rfl, (bw (t_3 _ (List.mem_of_getElem? (i := 28) rfl)) rfl), Or.inl rfl⟩
theorem fl_X11_307_0 : FL RX11 307 0 18 := ⟨(RX0, TX0, 19), "SalePart$Account", rfl, uw_X0, Nat.le_of_ble_eq_true rfl, (bw (t_2 _ (List.mem_of_getElem? (i := 154) rfl)) rfl), Or.inl rfl⟩
theorem fl_X11_301_0 : FL RX11 301 0 14 := ⟨(RX0, TX0, 19), "SalePart$Account", rfl, uw_X0, Nat.le_of_ble_eq_true rfl, (bw (t_2 _ (List.mem_of_getElem? (i := 146) rfl)) rfl), Or.inl rfl⟩
theorem fl_X11_304_0 : FL RX11 304 0 15 := ⟨(RX0, TX0, 19), "SalePart$Account", rfl, uw_X0, Nat.le_of_ble_eq_true rfl, (bw (t_2 _ (List.mem_of_getElem? (i := 149) rfl)) rfl), Or.inl rfl⟩
theorem fl_X11_182_3 : FL RX11 182 3 8 := ⟨(RX3, TX3, 13), "SalePart$Fact", rfl, uw_X3, Nat.le_of_ble_eq_true rfl, (bw (t_1 _ (List.mem_of_getElem? (i := 166) rfl)) rfl), Or.inl rfl⟩
theorem fp_X11_3_8 : FP RX11 3 8 false := ⟨(RX3, TX3, 13), rfl, rfl, fun h => nomatch h⟩
theorem fl_X11_185_3 : FL RX11 185 3 9 := ⟨(RX3, TX3, 13), "SalePart$Fact", rfl, uw_X3, Nat.le_of_ble_eq_true rfl, (bw (t_1 _ (List.mem_of_getElem? (i := 170) rfl)) rfl), Or.inl rfl⟩
theorem fp_X11_3_9 : FP RX11 3 9 false := ⟨(RX3, TX3, 13), rfl, rfl, fun h => nomatch h⟩
theorem fl_X11_348_3 : FL RX11 348 3 4 := ⟨(RX3, TX3, 13), "SalePart$Fact", rfl, uw_X3, Nat.le_of_ble_eq_true rfl, (bw (t_1 _ (List.mem_of_getElem? (i := 152) rfl)) rfl), Or.inl rfl⟩
theorem fl_X11_342_3 : FL RX11 342 3 5 := ⟨(RX3, TX3, 13), "SalePart$Fact", rfl, uw_X3, Nat.le_of_ble_eq_true rfl, (bw (t_1 _ (List.mem_of_getElem? (i := 156) rfl)) rfl), Or.inl rfl⟩
theorem fp_X11_10_0 : FP RX11 10 0 true := ⟨(RX11, TX11, 9), rfl, rfl, fun _ => rfl⟩
theorem fp_X11_10_1 : FP RX11 10 1 true := ⟨(RX11, TX11, 9), rfl, rfl, fun _ => rfl⟩
theorem fl_X11_30_10 : FL RX11 30 10 2 := ⟨(RX11, TX11, 9), "SalePart", rfl, uw_X11, Nat.le_of_ble_eq_true rfl, (bw (t_3 _ (List.mem_of_getElem? (i := 24) rfl)) rfl), Or.inl rfl⟩
theorem fp_X11_10_2 : FP RX11 10 2 true := ⟨(RX11, TX11, 9), rfl, rfl, fun _ => rfl⟩
theorem fl_X11_37_10 : FL RX11 37 10 3 := ⟨(RX11, TX11, 9), "SalePart", rfl, uw_X11, Nat.le_of_ble_eq_true rfl, (bw (t_3 _ (List.mem_of_getElem? (i := 25) rfl)) rfl), Or.inl rfl⟩
theorem fp_X11_10_3 : FP RX11 10 3 true := ⟨(RX11, TX11, 9), rfl, rfl, fun _ => rfl⟩
theorem fl_X11_41_10 : FL RX11 41 10 4 := ⟨(RX11, TX11, 9), "SalePart", rfl, uw_X11, Nat.le_of_ble_eq_true rfl, (bw (t_3 _ (List.mem_of_getElem? (i := 26) rfl)) rfl), Or.inl rfl⟩
theorem fp_X11_10_4 : FP RX11 10 4 true := ⟨(RX11, TX11, 9), rfl, rfl, fun _ => rfl⟩
theorem fp_X11_10_5 : FP RX11 10 5 false := ⟨(RX11, TX11, 9), rfl, rfl, fun h => nomatch h⟩
theorem fp_X11_10_6 : FP RX11 10 6 false := ⟨(RX11, TX11, 9), rfl, rfl, fun h => nomatch h⟩
theorem fl_X11_55_10 : FL RX11 55 10 7 := ⟨(RX11, TX11, 9), "SalePart", rfl, uw_X11, Nat.le_of_ble_eq_true rfl, (bw (t_3 _ (List.mem_of_getElem? (i := 29) rfl)) rfl), Or.inl rfl⟩
theorem fp_X11_10_7 : FP RX11 10 7 false := ⟨(RX11, TX11, 9), rfl, rfl, fun h => nomatch h⟩
theorem fp_X11_10_8 : FP RX11 10 8 true := ⟨(RX11, TX11, 9), rfl, rfl, fun _ => rfl⟩
theorem fl_X11_129_9 : FL RX11 129 9 6 := ⟨(RX10, TX10, 8), "SalePart$Work", rfl, uw_X10, Nat.le_of_ble_eq_true rfl, (bw (t_1 _ (List.mem_of_getElem? (i := 79) rfl)) rfl), Or.inl rfl⟩
theorem fp_X11_1_1 : FP RX11 1 1 false := ⟨(RX1, TX1, 16), rfl, rfl, fun h => nomatch h⟩
theorem fl_X11_248_4 : FL RX11 248 4 0 := ⟨(RX4, TX4, 16), "SalePart$Law", rfl, uw_X4, Nat.le_of_ble_eq_true rfl, (bw (t_1 _ (List.mem_of_getElem? (i := 186) rfl)) rfl), Or.inr (bw (t_1 _ (List.mem_of_getElem? (i := 187) rfl)) rfl)⟩
theorem fp_X11_4_0 : FP RX11 4 0 false := ⟨(RX4, TX4, 16), rfl, rfl, fun h => nomatch h⟩
theorem fl_X11_251_1 : FL RX11 251 1 14 := ⟨(RX1, TX1, 16), "SalePart$Books", rfl, uw_X1, Nat.le_of_ble_eq_true rfl, (bw (t_2 _ (List.mem_of_getElem? (i := 74) rfl)) rfl), Or.inl rfl⟩
theorem fp_X11_1_15 : FP RX11 1 15 false := ⟨(RX1, TX1, 16), rfl, rfl, fun h => nomatch h⟩
theorem fl_X11_368_3 : FL RX11 368 3 2 := ⟨(RX3, TX3, 13), "SalePart$Fact", rfl, uw_X3, Nat.le_of_ble_eq_true rfl, (bw (t_1 _ (List.mem_of_getElem? (i := 145) rfl)) rfl), Or.inl rfl⟩
theorem fl_X11_94_1 : FL RX11 94 1 2 := ⟨(RX1, TX1, 16), "SalePart$Books", rfl, uw_X1, Nat.le_of_ble_eq_true rfl, (bw (t_2 _ (List.mem_of_getElem? (i := 49) rfl)) rfl), Or.inl rfl⟩
theorem fp_X11_1_3 : FP RX11 1 3 false := ⟨(RX1, TX1, 16), rfl, rfl, fun h => nomatch h⟩
theorem fl_X11_70_1 : FL RX11 70 1 9 := ⟨(RX1, TX1, 16), "SalePart$Books", rfl, uw_X1, Nat.le_of_ble_eq_true rfl, (bw (t_2 _ (List.mem_of_getElem? (i := 63) rfl)) rfl), Or.inl rfl⟩
theorem fl_X11_82_1 : FL RX11 82 1 8 := ⟨(RX1, TX1, 16), "SalePart$Books", rfl, uw_X1, Nat.le_of_ble_eq_true rfl, (bw (t_2 _ (List.mem_of_getElem? (i := 61) rfl)) rfl), Or.inl rfl⟩
theorem fp_X11_1_9 : FP RX11 1 9 false := ⟨(RX1, TX1, 16), rfl, rfl, fun h => nomatch h⟩
theorem fl_X11_386_7 : FL RX11 386 7 5 := ⟨(RX7, TX7, 11), "SalePart$Reader", rfl, uw_X7, Nat.le_of_ble_eq_true rfl, (bw (t_2 _ (List.mem_of_getElem? (i := 231) rfl)) rfl), Or.inl rfl⟩
theorem fl_X11_387_4 : FL RX11 387 4 2 := ⟨(RX4, TX4, 16), "SalePart$Law", rfl, uw_X4, Nat.le_of_ble_eq_true rfl, (bw (t_1 _ (List.mem_of_getElem? (i := 229) rfl)) rfl), Or.inl rfl⟩
theorem fp_X11_4_2 : FP RX11 4 2 false := ⟨(RX4, TX4, 16), rfl, rfl, fun h => nomatch h⟩
theorem fl_X11_388_4 : FL RX11 388 4 3 := ⟨(RX4, TX4, 16), "SalePart$Law", rfl, uw_X4, Nat.le_of_ble_eq_true rfl, (bw (t_1 _ (List.mem_of_getElem? (i := 232) rfl)) rfl), Or.inl rfl⟩
theorem fp_X11_4_3 : FP RX11 4 3 false := ⟨(RX4, TX4, 16), rfl, rfl, fun h => nomatch h⟩
theorem fl_X11_189_3 : FL RX11 189 3 10 := ⟨(RX3, TX3, 13), "SalePart$Fact", rfl, uw_X3, Nat.le_of_ble_eq_true rfl, (bw (t_1 _ (List.mem_of_getElem? (i := 175) rfl)) rfl), Or.inl rfl⟩
theorem fp_X11_3_10 : FP RX11 3 10 false := ⟨(RX3, TX3, 13), rfl, rfl, fun h => nomatch h⟩
theorem fl_X11_192_3 : FL RX11 192 3 11 := ⟨(RX3, TX3, 13), "SalePart$Fact", rfl, uw_X3, Nat.le_of_ble_eq_true rfl, (bw (t_1 _ (List.mem_of_getElem? (i := 178) rfl)) rfl), Or.inl rfl⟩
theorem fp_X11_3_11 : FP RX11 3 11 false := ⟨(RX3, TX3, 13), rfl, rfl, fun h => nomatch h⟩
theorem fl_X11_195_3 : FL RX11 195 3 12 := ⟨(RX3, TX3, 13), "SalePart$Fact", rfl, uw_X3, Nat.le_of_ble_eq_true rfl, (bw (t_1 _ (List.mem_of_getElem? (i := 181) rfl)) rfl), Or.inl rfl⟩
theorem fp_X11_3_12 : FP RX11 3 12 false := ⟨(RX3, TX3, 13), rfl, rfl, fun h => nomatch h⟩
theorem fl_X11_141_1 : FL RX11 141 1 6 := ⟨(RX1, TX1, 16), "SalePart$Books", rfl, uw_X1, Nat.le_of_ble_eq_true rfl, (bw (t_2 _ (List.mem_of_getElem? (i := 57) rfl)) rfl), Or.inl rfl⟩
theorem fp_X11_1_7 : FP RX11 1 7 false := ⟨(RX1, TX1, 16), rfl, rfl, fun h => nomatch h⟩
theorem fl_X11_271_0 : FL RX11 271 0 7 := ⟨(RX0, TX0, 19), "SalePart$Account", rfl, uw_X0, Nat.le_of_ble_eq_true rfl, (bw (t_2 _ (List.mem_of_getElem? (i := 132) rfl)) rfl), Or.inl rfl⟩
theorem fl_X11_272_0 : FL RX11 272 0 10 := ⟨(RX0, TX0, 19), "SalePart$Account", rfl, uw_X0, Nat.le_of_ble_eq_true rfl, (bw (t_2 _ (List.mem_of_getElem? (i := 138) rfl)) rfl), Or.inl rfl⟩
theorem fl_X11_276_0 : FL RX11 276 0 11 := ⟨(RX0, TX0, 19), "SalePart$Account", rfl, uw_X0, Nat.le_of_ble_eq_true rfl, (bw (t_2 _ (List.mem_of_getElem? (i := 140) rfl)) rfl), Or.inl rfl⟩
theorem fl_X11_279_0 : FL RX11 279 0 12 := ⟨(RX0, TX0, 19), "SalePart$Account", rfl, uw_X0, Nat.le_of_ble_eq_true rfl, (bw (t_2 _ (List.mem_of_getElem? (i := 142) rfl)) rfl), Or.inl rfl⟩
theorem fl_X11_285_3 : FL RX11 285 3 6 := ⟨(RX3, TX3, 13), "SalePart$Fact", rfl, uw_X3, Nat.le_of_ble_eq_true rfl, (bw (t_1 _ (List.mem_of_getElem? (i := 160) rfl)) rfl), Or.inl rfl⟩
theorem fl_X11_292_0 : FL RX11 292 0 8 := ⟨(RX0, TX0, 19), "SalePart$Account", rfl, uw_X0, Nat.le_of_ble_eq_true rfl, (bw (t_2 _ (List.mem_of_getElem? (i := 134) rfl)) rfl), Or.inl rfl⟩
theorem fl_X11_295_0 : FL RX11 295 0 9 := ⟨(RX0, TX0, 19), "SalePart$Account", rfl, uw_X0, Nat.le_of_ble_eq_true rfl, (bw (t_2 _ (List.mem_of_getElem? (i := 136) rfl)) rfl), Or.inl rfl⟩
theorem fl_X11_118_1 : FL RX11 118 1 4 := ⟨(RX1, TX1, 16), "SalePart$Books", rfl, uw_X1, Nat.le_of_ble_eq_true rfl, (bw (t_2 _ (List.mem_of_getElem? (i := 53) rfl)) rfl), Or.inl rfl⟩
theorem fp_X11_1_5 : FP RX11 1 5 false := ⟨(RX1, TX1, 16), rfl, rfl, fun h => nomatch h⟩
theorem fl_X12_208_11 : FL RX12 208 11 0 := ⟨(RX12, TX12, 101), "SalePartModel", rfl, uw_X12, Nat.le_of_ble_eq_true rfl, (bw (t_6 _ (List.mem_of_getElem? (i := 123) rfl)) rfl), Or.inl rfl⟩
theorem fp_X12_11_0 : FP RX12 11 0 false := ⟨(RX12, TX12, 101), rfl, rfl, fun h => nomatch h⟩
theorem fl_X12_221_11 : FL RX12 221 11 4 := ⟨(RX12, TX12, 101), "SalePartModel", rfl, uw_X12, Nat.le_of_ble_eq_true rfl, (bw (t_6 _ (List.mem_of_getElem? (i := 127) rfl)) rfl), Or.inl rfl⟩
theorem fl_X12_28_11 : FL RX12 28 11 15 := ⟨(RX12, TX12, 101), "SalePartModel", rfl, uw_X12, Nat.le_of_ble_eq_true rfl, (bw (t_6 _ (List.mem_of_getElem? (i := 138) rfl)) rfl), Or.inl rfl⟩
theorem fl_X12_31_11 : FL RX12 31 11 16 := ⟨(RX12, TX12, 101), "SalePartModel", rfl, uw_X12, Nat.le_of_ble_eq_true rfl, (bw (t_6 _ (List.mem_of_getElem? (i := 139) rfl)) rfl), Or.inl rfl⟩
theorem fl_X12_34_11 : FL RX12 34 11 17 := ⟨(RX12, TX12, 101), "SalePartModel", rfl, uw_X12, Nat.le_of_ble_eq_true rfl, (bw (t_6 _ (List.mem_of_getElem? (i := 140) rfl)) rfl), Or.inl rfl⟩
theorem fl_X12_276_11 : FL RX12 276 11 39 := ⟨(RX12, TX12, 101), "SalePartModel", rfl, uw_X12, Nat.le_of_ble_eq_true rfl, (bw (t_6 _ (List.mem_of_getElem? (i := 162) rfl)) rfl), Or.inl rfl⟩
theorem fl_X12_101_11 : FL RX12 101 11 41 := ⟨(RX12, TX12, 101), "SalePartModel", rfl, uw_X12, Nat.le_of_ble_eq_true rfl, (bw (t_6 _ (List.mem_of_getElem? (i := 164) rfl)) rfl), Or.inl rfl⟩
theorem fp_X12_11_41 : FP RX12 11 41 false := ⟨(RX12, TX12, 101), rfl, rfl, fun h => nomatch h⟩
theorem fl_X12_326_11 : FL RX12 326 11 40 := ⟨(RX12, TX12, 101), "SalePartModel", rfl, uw_X12, Nat.le_of_ble_eq_true rfl, (bw (t_6 _ (List.mem_of_getElem? (i := 163) rfl)) rfl), Or.inl rfl⟩
theorem fp_X12_11_40 : FP RX12 11 40 false := ⟨(RX12, TX12, 101), rfl, rfl, fun h => nomatch h⟩
theorem fp_X12_11_39 : FP RX12 11 39 false := ⟨(RX12, TX12, 101), rfl, rfl, fun h => nomatch h⟩
theorem fl_X12_105_11 : FL RX12 105 11 55 := ⟨(RX12, TX12, 101), "SalePartModel", rfl, uw_X12, Nat.le_of_ble_eq_true rfl, (bw (t_6 _ (List.mem_of_getElem? (i := 178) rfl)) rfl), Or.inl rfl⟩
theorem fl_X12_108_11 : FL RX12 108 11 56 := ⟨(RX12, TX12, 101), "SalePartModel", rfl, uw_X12, Nat.le_of_ble_eq_true rfl, (bw (t_6 _ (List.mem_of_getElem? (i := 179) rfl)) rfl), Or.inl rfl⟩
theorem fl_X12_250_11 : FL RX12 250 11 1 := ⟨(RX12, TX12, 101), "SalePartModel", rfl, uw_X12, Nat.le_of_ble_eq_true rfl, (bw (t_6 _ (List.mem_of_getElem? (i := 124) rfl)) rfl), Or.inl rfl⟩
theorem fl_X12_205_11 : FL RX12 205 11 100 := ⟨(RX12, TX12, 101), "SalePartModel", rfl, uw_X12, Nat.le_of_ble_eq_true rfl, (bw (t_6 _ (List.mem_of_getElem? (i := 223) rfl)) rfl), Or.inl rfl⟩
theorem fl_X12_253_11 : FL RX12 253 11 7 := ⟨(RX12, TX12, 101), "SalePartModel", rfl, uw_X12, Nat.le_of_ble_eq_true rfl, (bw (t_6 _ (List.mem_of_getElem? (i := 130) rfl)) rfl), Or.inl rfl⟩
theorem fl_X12_56_11 : FL RX12 56 11 24 := ⟨(RX12, TX12, 101), "SalePartModel", rfl, uw_X12, Nat.le_of_ble_eq_true rfl, (bw (t_6 _ (List.mem_of_getElem? (i := 147) rfl)) rfl), Or.inl rfl⟩
theorem fl_X12_74_11 : FL RX12 74 11 30 := ⟨(RX12, TX12, 101), "SalePartModel", rfl, uw_X12, Nat.le_of_ble_eq_true rfl, (bw (t_6 _ (List.mem_of_getElem? (i := 153) rfl)) rfl), Or.inl rfl⟩
theorem fl_X12_401_11 : FL RX12 401 11 73 := ⟨(RX12, TX12, 101), "SalePartModel", rfl, uw_X12, Nat.le_of_ble_eq_true rfl, (bw (t_6 _ (List.mem_of_getElem? (i := 196) rfl)) rfl), Or.inl rfl⟩
theorem fp_X12_11_73 : FP RX12 11 73 false := ⟨(RX12, TX12, 101), rfl, rfl, fun h => nomatch h⟩
theorem fl_X12_174_11 : FL RX12 174 11 89 := ⟨(RX12, TX12, 101), "SalePartModel", rfl, uw_X12, Nat.le_of_ble_eq_true rfl, (bw (t_6 _ (List.mem_of_getElem? (i := 212) rfl)) rfl), Or.inl rfl⟩
theorem fl_X12_267_11 : FL RX12 267 11 50 := ⟨(RX12, TX12, 101), "SalePartModel", rfl, uw_X12, Nat.le_of_ble_eq_true rfl, (bw (t_6 _ (List.mem_of_getElem? (i := 173) rfl)) rfl), Or.inl rfl⟩
theorem fl_X12_114_11 : FL RX12 114 11 58 := ⟨(RX12, TX12, 101), "SalePartModel", rfl, uw_X12, Nat.le_of_ble_eq_true rfl, (bw (t_6 _ (List.mem_of_getElem? (i := 181) rfl)) rfl), Or.inl rfl⟩
theorem fl_X12_86_11 : FL RX12 86 11 34 := ⟨(RX12, TX12, 101), "SalePartModel", rfl, uw_X12, Nat.le_of_ble_eq_true rfl, (bw (t_6 _ (List.mem_of_getElem? (i := 157) rfl)) rfl), Or.inl rfl⟩
theorem fl_X12_355_11 : FL RX12 355 11 53 := ⟨(RX12, TX12, 101), "SalePartModel", rfl, uw_X12, Nat.le_of_ble_eq_true rfl, (bw (t_6 _ (List.mem_of_getElem? (i := 176) rfl)) rfl), Or.inl rfl⟩
theorem fp_X12_11_53 : FP RX12 11 53 false := ⟨(RX12, TX12, 101), rfl, rfl, fun h => nomatch h⟩
theorem fl_X12_153_11 : FL RX12 153 11 71 := ⟨(RX12, TX12, 101), "SalePartModel", rfl, uw_X12, Nat.le_of_ble_eq_true rfl, (bw (t_6 _ (List.mem_of_getElem? (i := 194) rfl)) rfl), Or.inl rfl⟩
theorem fl_X12_306_11 : FL RX12 306 11 44 := ⟨(RX12, TX12, 101), "SalePartModel", rfl, uw_X12, Nat.le_of_ble_eq_true rfl, (bw (t_6 _ (List.mem_of_getElem? (i := 167) rfl)) rfl), Or.inl rfl⟩
theorem fl_X12_62_11 : FL RX12 62 11 26 := ⟨(RX12, TX12, 101), "SalePartModel", rfl, uw_X12, Nat.le_of_ble_eq_true rfl, (bw (t_6 _ (List.mem_of_getElem? (i := 149) rfl)) rfl), Or.inl rfl⟩
theorem fl_X12_65_11 : FL RX12 65 11 27 := ⟨(RX12, TX12, 101), "SalePartModel", rfl, uw_X12, Nat.le_of_ble_eq_true rfl, (bw (t_6 _ (List.mem_of_getElem? (i := 150) rfl)) rfl), Or.inl rfl⟩
theorem fl_X12_283_11 : FL RX12 283 11 42 := ⟨(RX12, TX12, 101), "SalePartModel", rfl, uw_X12, Nat.le_of_ble_eq_true rfl, (bw (t_6 _ (List.mem_of_getElem? (i := 165) rfl)) rfl), Or.inl rfl⟩
theorem fl_X12_98_11 : FL RX12 98 11 38 := ⟨(RX12, TX12, 101), "SalePartModel", rfl, uw_X12, Nat.le_of_ble_eq_true rfl, (bw (t_6 _ (List.mem_of_getElem? (i := 161) rfl)) rfl), Or.inl rfl⟩
theorem fl_X12_273_11 : FL RX12 273 11 8 := ⟨(RX12, TX12, 101), "SalePartModel", rfl, uw_X12, Nat.le_of_ble_eq_true rfl, (bw (t_6 _ (List.mem_of_getElem? (i := 131) rfl)) rfl), Or.inl rfl⟩
theorem fl_X12_89_11 : FL RX12 89 11 35 := ⟨(RX12, TX12, 101), "SalePartModel", rfl, uw_X12, Nat.le_of_ble_eq_true rfl, (bw (t_6 _ (List.mem_of_getElem? (i := 158) rfl)) rfl), Or.inl rfl⟩
theorem fl_X12_92_11 : FL RX12 92 11 36 := ⟨(RX12, TX12, 101), "SalePartModel", rfl, uw_X12, Nat.le_of_ble_eq_true rfl, (bw (t_6 _ (List.mem_of_getElem? (i := 159) rfl)) rfl), Or.inl rfl⟩
theorem fl_X12_95_11 : FL RX12 95 11 37 := ⟨(RX12, TX12, 101), "SalePartModel", rfl, uw_X12, Nat.le_of_ble_eq_true rfl, (bw (t_6 _ (List.mem_of_getElem? (i := 160) rfl)) rfl), Or.inl rfl⟩
theorem fp_X12_11_8 : FP RX12 11 8 false := ⟨(RX12, TX12, 101), rfl, rfl, fun h => nomatch h⟩
theorem fl_X12_377_11 : FL RX12 377 11 54 := ⟨(RX12, TX12, 101), "SalePartModel", rfl, uw_X12, Nat.le_of_ble_eq_true rfl, (bw (t_6 _ (List.mem_of_getElem? (i := 177) rfl)) rfl), Or.inl rfl⟩
theorem fp_X12_11_54 : FP RX12 11 54 false := ⟨(RX12, TX12, 101), rfl, rfl, fun h => nomatch h⟩
theorem fl_X12_138_11 : FL RX12 138 11 66 := ⟨(RX12, TX12, 101), "SalePartModel", rfl, uw_X12, Nat.le_of_ble_eq_true rfl, (bw (t_6 _ (List.mem_of_getElem? (i := 189) rfl)) rfl), Or.inl rfl⟩
theorem fl_X12_120_11 : FL RX12 120 11 60 := ⟨(RX12, TX12, 101), "SalePartModel", rfl, uw_X12, Nat.le_of_ble_eq_true rfl, (bw (t_6 _ (List.mem_of_getElem? (i := 183) rfl)) rfl), Or.inl rfl⟩
theorem fl_X12_123_11 : FL RX12 123 11 61 := ⟨(RX12, TX12, 101), "SalePartModel", rfl, uw_X12, Nat.le_of_ble_eq_true rfl, (bw (t_6 _ (List.mem_of_getElem? (i := 184) rfl)) rfl), Or.inl rfl⟩
theorem fl_X12_126_11 : FL RX12 126 11 62 := ⟨(RX12, TX12, 101), "SalePartModel", rfl, uw_X12, Nat.le_of_ble_eq_true rfl, (bw (t_6 _ (List.mem_of_getElem? (i := 185) rfl)) rfl), Or.inl rfl⟩
theorem fl_X12_129_11 : FL RX12 129 11 63 := ⟨(RX12, TX12, 101), "SalePartModel", rfl, uw_X12, Nat.le_of_ble_eq_true rfl, (bw (t_6 _ (List.mem_of_getElem? (i := 186) rfl)) rfl), Or.inl rfl⟩
theorem fl_X12_132_11 : FL RX12 132 11 64 := ⟨(RX12, TX12, 101), "SalePartModel", rfl, uw_X12, Nat.le_of_ble_eq_true rfl, (bw (t_6 _ (List.mem_of_getElem? (i := 187) rfl)) rfl), Or.inl rfl⟩
theorem fl_X12_135_11 : FL RX12 135 11 65 := ⟨(RX12, TX12, 101), "SalePartModel", rfl, uw_X12, Nat.le_of_ble_eq_true rfl, (bw (t_6 _ (List.mem_of_getElem? (i := 188) rfl)) rfl), Or.inl rfl⟩
theorem fl_X12_211_11 : FL RX12 211 11 2 := ⟨(RX12, TX12, 101), "SalePartModel", rfl, uw_X12, Nat.le_of_ble_eq_true rfl, (bw (t_6 _ (List.mem_of_getElem? (i := 125) rfl)) rfl), Or.inl rfl⟩
theorem fl_X12_195_11 : FL RX12 195 11 96 := ⟨(RX12, TX12, 101), "SalePartModel", rfl, uw_X12, Nat.le_of_ble_eq_true rfl, (bw (t_6 _ (List.mem_of_getElem? (i := 219) rfl)) rfl), Or.inl rfl⟩
theorem fl_X12_218_11 : FL RX12 218 11 3 := ⟨(RX12, TX12, 101), "SalePartModel", rfl, uw_X12, Nat.le_of_ble_eq_true rfl, (bw (t_6 _ (List.mem_of_getElem? (i := 126) rfl)) rfl), Or.inl rfl⟩
theorem fl_X12_453_11 : FL RX12 453 11 86 := ⟨(RX12, TX12, 101), "SalePartModel", rfl, uw_X12, Nat.le_of_ble_eq_true rfl, (bw (t_6 _ (List.mem_of_getElem? (i := 209) rfl)) rfl), Or.inl rfl⟩
theorem fl_X12_186_11 : FL RX12 186 11 93 := ⟨(RX12, TX12, 101), "SalePartModel", rfl, uw_X12, Nat.le_of_ble_eq_true rfl, (bw (t_6 _ (List.mem_of_getElem? (i := 216) rfl)) rfl), Or.inl rfl⟩
theorem fl_X12_180_11 : FL RX12 180 11 91 := ⟨(RX12, TX12, 101), "SalePartModel", rfl, uw_X12, Nat.le_of_ble_eq_true rfl, (bw (t_6 _ (List.mem_of_getElem? (i := 214) rfl)) rfl), Or.inl rfl⟩
theorem fl_X12_224_11 : FL RX12 224 11 5 := ⟨(RX12, TX12, 101), "SalePartModel", rfl, uw_X12, Nat.le_of_ble_eq_true rfl, (bw (t_6 _ (List.mem_of_getElem? (i := 128) rfl)) rfl), Or.inl rfl⟩
theorem fl_X12_71_11 : FL RX12 71 11 29 := ⟨(RX12, TX12, 101), "SalePartModel", rfl, uw_X12, Nat.le_of_ble_eq_true rfl, (bw (t_6 _ (List.mem_of_getElem? (i := 152) rfl)) rfl), Or.inl rfl⟩
theorem fl_X12_332_11 : FL RX12 332 11 52 := ⟨(RX12, TX12, 101), "SalePartModel", rfl, uw_X12, Nat.le_of_ble_eq_true rfl, (bw (t_6 _ (List.mem_of_getElem? (i := 175) rfl)) rfl), Or.inl rfl⟩
theorem fl_X12_150_11 : FL RX12 150 11 70 := ⟨(RX12, TX12, 101), "SalePartModel", rfl, uw_X12, Nat.le_of_ble_eq_true rfl, (bw (t_6 _ (List.mem_of_getElem? (i := 193) rfl)) rfl), Or.inl rfl⟩
theorem fp_X12_11_52 : FP RX12 11 52 false := ⟨(RX12, TX12, 101), rfl, rfl, fun h => nomatch h⟩
theorem fp_X12_11_1 : FP RX12 11 1 false := ⟨(RX12, TX12, 101), rfl, rfl, fun h => nomatch h⟩
theorem fl_X12_329_11 : FL RX12 329 11 51 := ⟨(RX12, TX12, 101), "SalePartModel", rfl, uw_X12, Nat.le_of_ble_eq_true rfl, (bw (t_6 _ (List.mem_of_getElem? (i := 174) rfl)) rfl), Or.inl rfl⟩
theorem fl_X12_59_11 : FL RX12 59 11 25 := ⟨(RX12, TX12, 101), "SalePartModel", rfl, uw_X12, Nat.le_of_ble_eq_true rfl, (bw (t_6 _ (List.mem_of_getElem? (i := 148) rfl)) rfl), Or.inl rfl⟩
theorem fl_X12_398_11 : FL RX12 398 11 72 := ⟨(RX12, TX12, 101), "SalePartModel", rfl, uw_X12, Nat.le_of_ble_eq_true rfl, (bw (t_6 _ (List.mem_of_getElem? (i := 195) rfl)) rfl), Or.inl rfl⟩
theorem fp_X12_11_72 : FP RX12 11 72 false := ⟨(RX12, TX12, 101), rfl, rfl, fun h => nomatch h⟩
theorem fl_X12_156_11 : FL RX12 156 11 74 := ⟨(RX12, TX12, 101), "SalePartModel", rfl, uw_X12, Nat.le_of_ble_eq_true rfl, (bw (t_6 _ (List.mem_of_getElem? (i := 197) rfl)) rfl), Or.inl rfl⟩
theorem fl_X12_159_11 : FL RX12 159 11 75 := ⟨(RX12, TX12, 101), "SalePartModel", rfl, uw_X12, Nat.le_of_ble_eq_true rfl, (bw (t_6 _ (List.mem_of_getElem? (i := 198) rfl)) rfl), Or.inl rfl⟩
theorem fl_X12_162_11 : FL RX12 162 11 76 := ⟨(RX12, TX12, 101), "SalePartModel", rfl, uw_X12, Nat.le_of_ble_eq_true rfl, (bw (t_6 _ (List.mem_of_getElem? (i := 199) rfl)) rfl), Or.inl rfl⟩
theorem fl_X12_68_11 : FL RX12 68 11 28 := ⟨(RX12, TX12, 101), "SalePartModel", rfl, uw_X12, Nat.le_of_ble_eq_true rfl, (bw (t_6 _ (List.mem_of_getElem? (i := 151) rfl)) rfl), Or.inl rfl⟩
theorem fl_X12_165_11 : FL RX12 165 11 77 := ⟨(RX12, TX12, 101), "SalePartModel", rfl, uw_X12, Nat.le_of_ble_eq_true rfl, (bw (t_6 _ (List.mem_of_getElem? (i := 200) rfl)) rfl), Or.inl rfl⟩
theorem fl_X12_183_11 : FL RX12 183 11 92 := ⟨(RX12, TX12, 101), "SalePartModel", rfl, uw_X12, Nat.le_of_ble_eq_true rfl, (bw (t_6 _ (List.mem_of_getElem? (i := 215) rfl)) rfl), Or.inl rfl⟩
theorem fl_X12_286_11 : FL RX12 286 11 43 := ⟨(RX12, TX12, 101), "SalePartModel", rfl, uw_X12, Nat.le_of_ble_eq_true rfl, (bw (t_6 _ (List.mem_of_getElem? (i := 166) rfl)) rfl), Or.inl rfl⟩
theorem fp_X12_11_43 : FP RX12 11 43 false := ⟨(RX12, TX12, 101), rfl, rfl, fun h => nomatch h⟩
theorem fl_X12_293_11 : FL RX12 293 11 45 := ⟨(RX12, TX12, 101), "SalePartModel", rfl, uw_X12, Nat.le_of_ble_eq_true rfl, (bw (t_6 _ (List.mem_of_getElem? (i := 168) rfl)) rfl), Or.inl rfl⟩
theorem fp_X12_11_45 : FP RX12 11 45 false := ⟨(RX12, TX12, 101), rfl, rfl, fun h => nomatch h⟩
theorem fl_X12_296_11 : FL RX12 296 11 49 := ⟨(RX12, TX12, 101), "SalePartModel", rfl, uw_X12, Nat.le_of_ble_eq_true rfl, (bw (t_6 _ (List.mem_of_getElem? (i := 172) rfl)) rfl), Or.inl rfl⟩
theorem fp_X12_11_49 : FP RX12 11 49 false := ⟨(RX12, TX12, 101), rfl, rfl, fun h => nomatch h⟩
theorem fl_X12_300_11 : FL RX12 300 11 47 := ⟨(RX12, TX12, 101), "SalePartModel", rfl, uw_X12, Nat.le_of_ble_eq_true rfl, (bw (t_6 _ (List.mem_of_getElem? (i := 170) rfl)) rfl), Or.inl rfl⟩
theorem fp_X12_11_47 : FP RX12 11 47 false := ⟨(RX12, TX12, 101), rfl, rfl, fun h => nomatch h⟩
theorem fl_X12_303_11 : FL RX12 303 11 48 := ⟨(RX12, TX12, 101), "SalePartModel", rfl, uw_X12, Nat.le_of_ble_eq_true rfl, (bw (t_6 _ (List.mem_of_getElem? (i := 171) rfl)) rfl), Or.inl rfl⟩
theorem fp_X12_11_48 : FP RX12 11 48 false := ⟨(RX12, TX12, 101), rfl, rfl, fun h => nomatch h⟩
theorem fp_X12_11_44 : FP RX12 11 44 false := ⟨(RX12, TX12, 101), rfl, rfl, fun h => nomatch h⟩
theorem fl_X12_315_11 : FL RX12 315 11 46 := ⟨(RX12, TX12, 101), "SalePartModel", rfl, uw_X12, Nat.le_of_ble_eq_true rfl, (bw (t_6 _ (List.mem_of_getElem? (i := 169) rfl)) rfl), Or.inl rfl⟩
theorem fp_X12_11_46 : FP RX12 11 46 false := ⟨(RX12, TX12, 101), rfl, rfl, fun h => nomatch h⟩
theorem fl_X12_499_11 : FL RX12 499 11 98 := ⟨(RX12, TX12, 101), "SalePartModel", rfl, uw_X12, Nat.le_of_ble_eq_true rfl, (bw (t_6 _ (List.mem_of_getElem? (i := 221) rfl)) rfl), Or.inl rfl⟩
theorem fp_X12_11_98 : FP RX12 11 98 false := ⟨(RX12, TX12, 101), rfl, rfl, fun h => nomatch h⟩
theorem fl_X12_202_11 : FL RX12 202 11 99 := ⟨(RX12, TX12, 101), "SalePartModel", rfl, uw_X12, Nat.le_of_ble_eq_true rfl, (bw (t_6 _ (List.mem_of_getElem? (i := 222) rfl)) rfl), Or.inl rfl⟩
theorem fl_X12_177_11 : FL RX12 177 11 90 := ⟨(RX12, TX12, 101), "SalePartModel", rfl, uw_X12, Nat.le_of_ble_eq_true rfl, (bw (t_6 _ (List.mem_of_getElem? (i := 213) rfl)) rfl), Or.inl rfl⟩
theorem fl_X12_80_11 : FL RX12 80 11 32 := ⟨(RX12, TX12, 101), "SalePartModel", rfl, uw_X12, Nat.le_of_ble_eq_true rfl, (bw (t_6 _ (List.mem_of_getElem? (i := 155) rfl)) rfl), Or.inl rfl⟩
theorem fl_X12_77_11 : FL RX12 77 11 31 := ⟨(RX12, TX12, 101), "SalePartModel", rfl, uw_X12, Nat.le_of_ble_eq_true rfl, (bw (t_6 _ (List.mem_of_getElem? (i := 154) rfl)) rfl), Or.inl rfl⟩
theorem fl_X12_7_11 : FL RX12 7 11 9 := ⟨(RX12, TX12, 101), "SalePartModel", rfl, uw_X12, Nat.le_of_ble_eq_true rfl, (bw (t_6 _ (List.mem_of_getElem? (i := 132) rfl)) rfl), Or.inl rfl⟩
theorem fp_X12_11_9 : FP RX12 11 9 true := ⟨(RX12, TX12, 101), rfl, rfl, fun _ => rfl⟩
theorem fl_X12_13_11 : FL RX12 13 11 10 := ⟨(RX12, TX12, 101), "SalePartModel", rfl, uw_X12, Nat.le_of_ble_eq_true rfl, (bw (t_6 _ (List.mem_of_getElem? (i := 133) rfl)) rfl), Or.inl rfl⟩
theorem fp_X12_11_10 : FP RX12 11 10 true := ⟨(RX12, TX12, 101), rfl, rfl, fun _ => rfl⟩
theorem fl_X12_16_11 : FL RX12 16 11 11 := ⟨(RX12, TX12, 101), "SalePartModel", rfl, uw_X12, Nat.le_of_ble_eq_true rfl, (bw (t_6 _ (List.mem_of_getElem? (i := 134) rfl)) rfl), Or.inl rfl⟩
theorem fp_X12_11_11 : FP RX12 11 11 true := ⟨(RX12, TX12, 101), rfl, rfl, fun _ => rfl⟩
theorem fl_X12_19_11 : FL RX12 19 11 12 := ⟨(RX12, TX12, 101), "SalePartModel", rfl, uw_X12, Nat.le_of_ble_eq_true rfl, (bw (t_6 _ (List.mem_of_getElem? (i := 135) rfl)) rfl), Or.inl rfl⟩
theorem fp_X12_11_12 : FP RX12 11 12 true := ⟨(RX12, TX12, 101), rfl, rfl, fun _ => rfl⟩
theorem fl_X12_22_11 : FL RX12 22 11 13 := ⟨(RX12, TX12, 101), "SalePartModel", rfl, uw_X12, Nat.le_of_ble_eq_true rfl, (bw (t_6 _ (List.mem_of_getElem? (i := 136) rfl)) rfl), Or.inl rfl⟩
theorem fp_X12_11_13 : FP RX12 11 13 true := ⟨(RX12, TX12, 101), rfl, rfl, fun _ => rfl⟩
theorem fl_X12_25_11 : FL RX12 25 11 14 := ⟨(RX12, TX12, 101), "SalePartModel", rfl, uw_X12, Nat.le_of_ble_eq_true rfl, (bw (t_6 _ (List.mem_of_getElem? (i := 137) rfl)) rfl), Or.inl rfl⟩
theorem fp_X12_11_14 : FP RX12 11 14 true := ⟨(RX12, TX12, 101), rfl, rfl, fun _ => rfl⟩
theorem fp_X12_11_15 : FP RX12 11 15 true := ⟨(RX12, TX12, 101), rfl, rfl, fun _ => rfl⟩
theorem fp_X12_11_16 : FP RX12 11 16 true := ⟨(RX12, TX12, 101), rfl, rfl, fun _ => rfl⟩
theorem fp_X12_11_17 : FP RX12 11 17 true := ⟨(RX12, TX12, 101), rfl, rfl, fun _ => rfl⟩
theorem fl_X12_37_11 : FL RX12 37 11 18 := ⟨(RX12, TX12, 101), "SalePartModel", rfl, uw_X12, Nat.le_of_ble_eq_true rfl, (bw (t_6 _ (List.mem_of_getElem? (i := 141) rfl)) rfl), Or.inl rfl⟩
theorem fp_X12_11_18 : FP RX12 11 18 true := ⟨(RX12, TX12, 101), rfl, rfl, fun _ => rfl⟩
theorem fl_X12_41_11 : FL RX12 41 11 19 := ⟨(RX12, TX12, 101), "SalePartModel", rfl, uw_X12, Nat.le_of_ble_eq_true rfl, (bw (t_6 _ (List.mem_of_getElem? (i := 142) rfl)) rfl), Or.inl rfl⟩
theorem fp_X12_11_19 : FP RX12 11 19 true := ⟨(RX12, TX12, 101), rfl, rfl, fun _ => rfl⟩
theorem fl_X12_44_11 : FL RX12 44 11 20 := ⟨(RX12, TX12, 101), "SalePartModel", rfl, uw_X12, Nat.le_of_ble_eq_true rfl, (bw (t_6 _ (List.mem_of_getElem? (i := 143) rfl)) rfl), Or.inl rfl⟩
theorem fp_X12_11_20 : FP RX12 11 20 true := ⟨(RX12, TX12, 101), rfl, rfl, fun _ => rfl⟩
theorem fl_X12_47_11 : FL RX12 47 11 21 := ⟨(RX12, TX12, 101), "SalePartModel", rfl, uw_X12, Nat.le_of_ble_eq_true rfl, (bw (t_6 _ (List.mem_of_getElem? (i := 144) rfl)) rfl), Or.inl rfl⟩
theorem fp_X12_11_21 : FP RX12 11 21 true := ⟨(RX12, TX12, 101), rfl, rfl, fun _ => rfl⟩
theorem fl_X12_50_11 : FL RX12 50 11 22 := ⟨(RX12, TX12, 101), "SalePartModel", rfl, uw_X12, Nat.le_of_ble_eq_true rfl, (bw (t_6 _ (List.mem_of_getElem? (i := 145) rfl)) rfl), Or.inl rfl⟩
theorem fp_X12_11_22 : FP RX12 11 22 true := ⟨(RX12, TX12, 101), rfl, rfl, fun _ => rfl⟩
theorem fl_X12_53_11 : FL RX12 53 11 23 := ⟨(RX12, TX12, 101), "SalePartModel", rfl, uw_X12, Nat.le_of_ble_eq_true rfl, (bw (t_6 _ (List.mem_of_getElem? (i := 146) rfl)) rfl), Or.inl rfl⟩
theorem fp_X12_11_23 : FP RX12 11 23 true := ⟨(RX12, TX12, 101), rfl, rfl, fun _ => rfl⟩
theorem fp_X12_11_24 : FP RX12 11 24 true := ⟨(RX12, TX12, 101), rfl, rfl, fun _ => rfl⟩
theorem fp_X12_11_25 : FP RX12 11 25 true := ⟨(RX12, TX12, 101), rfl, rfl, fun _ => rfl⟩
theorem fp_X12_11_26 : FP RX12 11 26 true := ⟨(RX12, TX12, 101), rfl, rfl, fun _ => rfl⟩
theorem fp_X12_11_27 : FP RX12 11 27 true := ⟨(RX12, TX12, 101), rfl, rfl, fun _ => rfl⟩
theorem fp_X12_11_28 : FP RX12 11 28 true := ⟨(RX12, TX12, 101), rfl, rfl, fun _ => rfl⟩
theorem fp_X12_11_29 : FP RX12 11 29 true := ⟨(RX12, TX12, 101), rfl, rfl, fun _ => rfl⟩
theorem fp_X12_11_30 : FP RX12 11 30 true := ⟨(RX12, TX12, 101), rfl, rfl, fun _ => rfl⟩
theorem fp_X12_11_31 : FP RX12 11 31 true := ⟨(RX12, TX12, 101), rfl, rfl, fun _ => rfl⟩
theorem fp_X12_11_32 : FP RX12 11 32 true := ⟨(RX12, TX12, 101), rfl, rfl, fun _ => rfl⟩
theorem fl_X12_83_11 : FL RX12 83 11 33 := ⟨(RX12, TX12, 101), "SalePartModel", rfl, uw_X12, Nat.le_of_ble_eq_true rfl, (bw (t_6 _ (List.mem_of_getElem? (i := 156) rfl)) rfl), Or.inl rfl⟩
theorem fp_X12_11_33 : FP RX12 11 33 true := ⟨(RX12, TX12, 101), rfl, rfl, fun _ => rfl⟩
theorem fp_X12_11_34 : FP RX12 11 34 true := ⟨(RX12, TX12, 101), rfl, rfl, fun _ => rfl⟩
theorem fp_X12_11_35 : FP RX12 11 35 true := ⟨(RX12, TX12, 101), rfl, rfl, fun _ => rfl⟩
theorem fp_X12_11_36 : FP RX12 11 36 true := ⟨(RX12, TX12, 101), rfl, rfl, fun _ => rfl⟩
theorem fp_X12_11_37 : FP RX12 11 37 true := ⟨(RX12, TX12, 101), rfl, rfl, fun _ => rfl⟩
theorem fp_X12_11_38 : FP RX12 11 38 true := ⟨(RX12, TX12, 101), rfl, rfl, fun _ => rfl⟩
theorem fp_X12_11_55 : FP RX12 11 55 true := ⟨(RX12, TX12, 101), rfl, rfl, fun _ => rfl⟩
theorem fp_X12_11_56 : FP RX12 11 56 true := ⟨(RX12, TX12, 101), rfl, rfl, fun _ => rfl⟩
theorem fl_X12_111_11 : FL RX12 111 11 57 := ⟨(RX12, TX12, 101), "SalePartModel", rfl, uw_X12, Nat.le_of_ble_eq_true rfl, (bw (t_6 _ (List.mem_of_getElem? (i := 180) rfl)) rfl), Or.inl rfl⟩
theorem fp_X12_11_57 : FP RX12 11 57 true := ⟨(RX12, TX12, 101), rfl, rfl, fun _ => rfl⟩
theorem fp_X12_11_58 : FP RX12 11 58 true := ⟨(RX12, TX12, 101), rfl, rfl, fun _ => rfl⟩
theorem fl_X12_117_11 : FL RX12 117 11 59 := ⟨(RX12, TX12, 101), "SalePartModel", rfl, uw_X12, Nat.le_of_ble_eq_true rfl, (bw (t_6 _ (List.mem_of_getElem? (i := 182) rfl)) rfl), Or.inl rfl⟩
theorem fp_X12_11_59 : FP RX12 11 59 true := ⟨(RX12, TX12, 101), rfl, rfl, fun _ => rfl⟩
theorem fp_X12_11_60 : FP RX12 11 60 true := ⟨(RX12, TX12, 101), rfl, rfl, fun _ => rfl⟩
theorem fp_X12_11_61 : FP RX12 11 61 true := ⟨(RX12, TX12, 101), rfl, rfl, fun _ => rfl⟩
theorem fp_X12_11_62 : FP RX12 11 62 true := ⟨(RX12, TX12, 101), rfl, rfl, fun _ => rfl⟩
theorem fp_X12_11_63 : FP RX12 11 63 true := ⟨(RX12, TX12, 101), rfl, rfl, fun _ => rfl⟩
theorem fp_X12_11_64 : FP RX12 11 64 true := ⟨(RX12, TX12, 101), rfl, rfl, fun _ => rfl⟩
theorem fp_X12_11_65 : FP RX12 11 65 true := ⟨(RX12, TX12, 101), rfl, rfl, fun _ => rfl⟩
theorem fp_X12_11_66 : FP RX12 11 66 true := ⟨(RX12, TX12, 101), rfl, rfl, fun _ => rfl⟩
theorem fl_X12_141_11 : FL RX12 141 11 67 := ⟨(RX12, TX12, 101), "SalePartModel", rfl, uw_X12, Nat.le_of_ble_eq_true rfl, (bw (t_6 _ (List.mem_of_getElem? (i := 190) rfl)) rfl), Or.inl rfl⟩
theorem fp_X12_11_67 : FP RX12 11 67 true := ⟨(RX12, TX12, 101), rfl, rfl, fun _ => rfl⟩
theorem fl_X12_144_11 : FL RX12 144 11 68 := ⟨(RX12, TX12, 101), "SalePartModel", rfl, uw_X12, Nat.le_of_ble_eq_true rfl, (bw (t_6 _ (List.mem_of_getElem? (i := 191) rfl)) rfl), Or.inl rfl⟩
theorem fp_X12_11_68 : FP RX12 11 68 true := ⟨(RX12, TX12, 101), rfl, rfl, fun _ => rfl⟩
theorem fl_X12_147_11 : FL RX12 147 11 69 := ⟨(RX12, TX12, 101), "SalePartModel", rfl, uw_X12, Nat.le_of_ble_eq_true rfl, (bw (t_6 _ (List.mem_of_getElem? (i := 192) rfl)) rfl), Or.inl rfl⟩
theorem fp_X12_11_69 : FP RX12 11 69 true := ⟨(RX12, TX12, 101), rfl, rfl, fun _ => rfl⟩
theorem fp_X12_11_70 : FP RX12 11 70 true := ⟨(RX12, TX12, 101), rfl, rfl, fun _ => rfl⟩
theorem fp_X12_11_71 : FP RX12 11 71 true := ⟨(RX12, TX12, 101), rfl, rfl, fun _ => rfl⟩
theorem fp_X12_11_74 : FP RX12 11 74 true := ⟨(RX12, TX12, 101), rfl, rfl, fun _ => rfl⟩
theorem fp_X12_11_75 : FP RX12 11 75 true := ⟨(RX12, TX12, 101), rfl, rfl, fun _ => rfl⟩
theorem fp_X12_11_76 : FP RX12 11 76 true := ⟨(RX12, TX12, 101), rfl, rfl, fun _ => rfl⟩
theorem fp_X12_11_77 : FP RX12 11 77 true := ⟨(RX12, TX12, 101), rfl, rfl, fun _ => rfl⟩
theorem fl_X12_168_11 : FL RX12 168 11 87 := ⟨(RX12, TX12, 101), "SalePartModel", rfl, uw_X12, Nat.le_of_ble_eq_true rfl, (bw (t_6 _ (List.mem_of_getElem? (i := 210) rfl)) rfl), Or.inl rfl⟩
theorem fp_X12_11_87 : FP RX12 11 87 true := ⟨(RX12, TX12, 101), rfl, rfl, fun _ => rfl⟩
theorem fl_X12_171_11 : FL RX12 171 11 88 := ⟨(RX12, TX12, 101), "SalePartModel", rfl, uw_X12, Nat.le_of_ble_eq_true rfl, (bw (t_6 _ (List.mem_of_getElem? (i := 211) rfl)) rfl), Or.inl rfl⟩
theorem fp_X12_11_88 : FP RX12 11 88 true := ⟨(RX12, TX12, 101), rfl, rfl, fun _ => rfl⟩
theorem fp_X12_11_89 : FP RX12 11 89 true := ⟨(RX12, TX12, 101), rfl, rfl, fun _ => rfl⟩
theorem fp_X12_11_90 : FP RX12 11 90 true := ⟨(RX12, TX12, 101), rfl, rfl, fun _ => rfl⟩
theorem fp_X12_11_91 : FP RX12 11 91 true := ⟨(RX12, TX12, 101), rfl, rfl, fun _ => rfl⟩
theorem fp_X12_11_92 : FP RX12 11 92 true := ⟨(RX12, TX12, 101), rfl, rfl, fun _ => rfl⟩
theorem fp_X12_11_93 : FP RX12 11 93 true := ⟨(RX12, TX12, 101), rfl, rfl, fun _ => rfl⟩
theorem fl_X12_189_11 : FL RX12 189 11 94 := ⟨(RX12, TX12, 101), "SalePartModel", rfl, uw_X12, Nat.le_of_ble_eq_true rfl, (bw (t_6 _ (List.mem_of_getElem? (i := 217) rfl)) rfl), Or.inl rfl⟩
theorem fp_X12_11_94 : FP RX12 11 94 true := ⟨(RX12, TX12, 101), rfl, rfl, fun _ => rfl⟩
theorem fl_X12_192_11 : FL RX12 192 11 95 := ⟨(RX12, TX12, 101), "SalePartModel", rfl, uw_X12, Nat.le_of_ble_eq_true rfl, (bw (t_6 _ (List.mem_of_getElem? (i := 218) rfl)) rfl), Or.inl rfl⟩
theorem fp_X12_11_95 : FP RX12 11 95 true := ⟨(RX12, TX12, 101), rfl, rfl, fun _ => rfl⟩
theorem fp_X12_11_96 : FP RX12 11 96 true := ⟨(RX12, TX12, 101), rfl, rfl, fun _ => rfl⟩
theorem fl_X12_199_11 : FL RX12 199 11 97 := ⟨(RX12, TX12, 101), "SalePartModel", rfl, uw_X12, Nat.le_of_ble_eq_true rfl, (bw (t_6 _ (List.mem_of_getElem? (i := 220) rfl)) rfl), Or.inl rfl⟩
theorem fp_X12_11_97 : FP RX12 11 97 true := ⟨(RX12, TX12, 101), rfl, rfl, fun _ => rfl⟩
theorem fp_X12_11_99 : FP RX12 11 99 true := ⟨(RX12, TX12, 101), rfl, rfl, fun _ => rfl⟩
theorem fp_X12_11_100 : FP RX12 11 100 true := ⟨(RX12, TX12, 101), rfl, rfl, fun _ => rfl⟩
theorem fl_X12_416_11 : FL RX12 416 11 79 := ⟨(RX12, TX12, 101), "SalePartModel", rfl, uw_X12, Nat.le_of_ble_eq_true rfl, (bw (t_6 _ (List.mem_of_getElem? (i := 202) rfl)) rfl), Or.inl rfl⟩
theorem fl_X12_419_11 : FL RX12 419 11 78 := ⟨(RX12, TX12, 101), "SalePartModel", rfl, uw_X12, Nat.le_of_ble_eq_true rfl, (bw (t_6 _ (List.mem_of_getElem? (i := 201) rfl)) rfl), Or.inl rfl⟩
theorem fl_X12_408_11 : FL RX12 408 11 80 := ⟨(RX12, TX12, 101), "SalePartModel", rfl, uw_X12, Nat.le_of_ble_eq_true rfl, (bw (t_6 _ (List.mem_of_getElem? (i := 203) rfl)) rfl), Or.inl rfl⟩
theorem fl_X12_411_11 : FL RX12 411 11 81 := ⟨(RX12, TX12, 101), "SalePartModel", rfl, uw_X12, Nat.le_of_ble_eq_true rfl, (bw (t_6 _ (List.mem_of_getElem? (i := 204) rfl)) rfl), Or.inl rfl⟩
theorem fl_X12_405_11 : FL RX12 405 11 82 := ⟨(RX12, TX12, 101), "SalePartModel", rfl, uw_X12, Nat.le_of_ble_eq_true rfl, (bw (t_6 _ (List.mem_of_getElem? (i := 205) rfl)) rfl), Or.inl rfl⟩
theorem fp_X12_11_2 : FP RX12 11 2 false := ⟨(RX12, TX12, 101), rfl, rfl, fun h => nomatch h⟩
theorem fp_X12_11_50 : FP RX12 11 50 false := ⟨(RX12, TX12, 101), rfl, rfl, fun h => nomatch h⟩
theorem fp_X12_11_82 : FP RX12 11 82 false := ⟨(RX12, TX12, 101), rfl, rfl, fun h => nomatch h⟩
theorem fp_X12_11_80 : FP RX12 11 80 false := ⟨(RX12, TX12, 101), rfl, rfl, fun h => nomatch h⟩
theorem fp_X12_11_81 : FP RX12 11 81 false := ⟨(RX12, TX12, 101), rfl, rfl, fun h => nomatch h⟩
theorem fl_X12_450_11 : FL RX12 450 11 85 := ⟨(RX12, TX12, 101), "SalePartModel", rfl, uw_X12, Nat.le_of_ble_eq_true rfl, (bw (t_6 _ (List.mem_of_getElem? (i := 208) rfl)) rfl), Or.inl rfl⟩
theorem fp_X12_11_85 : FP RX12 11 85 false := ⟨(RX12, TX12, 101), rfl, rfl, fun h => nomatch h⟩
theorem fp_X12_11_3 : FP RX12 11 3 false := ⟨(RX12, TX12, 101), rfl, rfl, fun h => nomatch h⟩
theorem fp_X12_11_51 : FP RX12 11 51 false := ⟨(RX12, TX12, 101), rfl, rfl, fun h => nomatch h⟩
theorem fl_X12_232_11 : FL RX12 232 11 6 := ⟨(RX12, TX12, 101), "SalePartModel", rfl, uw_X12, Nat.le_of_ble_eq_true rfl, (bw (t_6 _ (List.mem_of_getElem? (i := 129) rfl)) rfl), Or.inl rfl⟩
theorem fp_X12_11_6 : FP RX12 11 6 false := ⟨(RX12, TX12, 101), rfl, rfl, fun h => nomatch h⟩
theorem fp_X12_11_42 : FP RX12 11 42 false := ⟨(RX12, TX12, 101), rfl, rfl, fun h => nomatch h⟩
theorem fp_X12_11_78 : FP RX12 11 78 false := ⟨(RX12, TX12, 101), rfl, rfl, fun h => nomatch h⟩
theorem fp_X12_11_79 : FP RX12 11 79 false := ⟨(RX12, TX12, 101), rfl, rfl, fun h => nomatch h⟩
theorem fl_X12_442_11 : FL RX12 442 11 83 := ⟨(RX12, TX12, 101), "SalePartModel", rfl, uw_X12, Nat.le_of_ble_eq_true rfl, (bw (t_6 _ (List.mem_of_getElem? (i := 206) rfl)) rfl), Or.inl rfl⟩
theorem fp_X12_11_83 : FP RX12 11 83 false := ⟨(RX12, TX12, 101), rfl, rfl, fun h => nomatch h⟩
theorem fl_X12_448_11 : FL RX12 448 11 84 := ⟨(RX12, TX12, 101), "SalePartModel", rfl, uw_X12, Nat.le_of_ble_eq_true rfl, (bw (t_6 _ (List.mem_of_getElem? (i := 207) rfl)) rfl), Or.inl rfl⟩
theorem fp_X12_11_84 : FP RX12 11 84 false := ⟨(RX12, TX12, 101), rfl, rfl, fun h => nomatch h⟩
theorem fp_X12_11_86 : FP RX12 11 86 false := ⟨(RX12, TX12, 101), rfl, rfl, fun h => nomatch h⟩
theorem fp_X12_11_5 : FP RX12 11 5 false := ⟨(RX12, TX12, 101), rfl, rfl, fun h => nomatch h⟩
theorem fp_X12_11_7 : FP RX12 11 7 false := ⟨(RX12, TX12, 101), rfl, rfl, fun h => nomatch h⟩
theorem fp_X12_11_4 : FP RX12 11 4 false := ⟨(RX12, TX12, 101), rfl, rfl, fun h => nomatch h⟩
theorem fl_X2_26_2 : FL RX2 26 2 1 := ⟨(RX2, TX2, 5), "SalePart$Clearing", rfl, uw_X2, Nat.le_of_ble_eq_true rfl, (bw (t_2 _ (List.mem_of_getElem? (i := 201) rfl)) rfl), Or.inl rfl⟩
theorem fl_X2_69_0 : FL RX2 69 0 17 := ⟨(RX0, TX0, 19), "SalePart$Account", rfl, uw_X0, Nat.le_of_ble_eq_true rfl, (bw (t_2 _ (List.mem_of_getElem? (i := 152) rfl)) rfl), Or.inl rfl⟩
theorem fl_X2_9_2 : FL RX2 9 2 2 := ⟨(RX2, TX2, 5), "SalePart$Clearing", rfl, uw_X2, Nat.le_of_ble_eq_true rfl, (bw (t_2 _ (List.mem_of_getElem? (i := 202) rfl)) rfl), Or.inl rfl⟩
theorem fl_X2_76_0 : FL RX2 76 0 15 := ⟨(RX0, TX0, 19), "SalePart$Account", rfl, uw_X0, Nat.le_of_ble_eq_true rfl, (bw (t_2 _ (List.mem_of_getElem? (i := 148) rfl)) rfl), Or.inl rfl⟩
theorem fl_X2_22_2 : FL RX2 22 2 0 := ⟨(RX2, TX2, 5), "SalePart$Clearing", rfl, uw_X2, Nat.le_of_ble_eq_true rfl, (bw (t_2 _ (List.mem_of_getElem? (i := 200) rfl)) rfl), Or.inl rfl⟩
theorem fl_X2_36_1 : FL RX2 36 1 11 := ⟨(RX1, TX1, 16), "SalePart$Books", rfl, uw_X1, Nat.le_of_ble_eq_true rfl, (bw (t_2 _ (List.mem_of_getElem? (i := 66) rfl)) rfl), Or.inl rfl⟩
theorem fl_X2_46_3 : FL RX2 46 3 10 := ⟨(RX3, TX3, 13), "SalePart$Fact", rfl, uw_X3, Nat.le_of_ble_eq_true rfl, (bw (t_1 _ (List.mem_of_getElem? (i := 173) rfl)) rfl), Or.inl rfl⟩
theorem fl_X2_18_2 : FL RX2 18 2 4 := ⟨(RX2, TX2, 5), "SalePart$Clearing", rfl, uw_X2, Nat.le_of_ble_eq_true rfl, (bw (t_2 _ (List.mem_of_getElem? (i := 204) rfl)) rfl), Or.inl rfl⟩
theorem fl_X2_15_2 : FL RX2 15 2 3 := ⟨(RX2, TX2, 5), "SalePart$Clearing", rfl, uw_X2, Nat.le_of_ble_eq_true rfl, (bw (t_2 _ (List.mem_of_getElem? (i := 203) rfl)) rfl), Or.inl rfl⟩
theorem fp_X2_2_2 : FP RX2 2 2 true := ⟨(RX2, TX2, 5), rfl, rfl, fun _ => rfl⟩
theorem fp_X2_2_3 : FP RX2 2 3 true := ⟨(RX2, TX2, 5), rfl, rfl, fun _ => rfl⟩
theorem fp_X2_2_4 : FP RX2 2 4 true := ⟨(RX2, TX2, 5), rfl, rfl, fun _ => rfl⟩
theorem fp_X2_2_0 : FP RX2 2 0 true := ⟨(RX2, TX2, 5), rfl, rfl, fun _ => rfl⟩
theorem fp_X2_2_1 : FP RX2 2 1 true := ⟨(RX2, TX2, 5), rfl, rfl, fun _ => rfl⟩
theorem fl_X3_9_3 : FL RX3 9 3 7 := ⟨(RX3, TX3, 13), "SalePart$Fact", rfl, uw_X3, Nat.le_of_ble_eq_true rfl, (bw (t_1 _ (List.mem_of_getElem? (i := 161) rfl)) rfl), Or.inl rfl⟩
theorem fp_X3_3_7 : FP RX3 3 7 false := ⟨(RX3, TX3, 13), rfl, rfl, fun h => nomatch h⟩
theorem fl_X3_15_3 : FL RX3 15 3 8 := ⟨(RX3, TX3, 13), "SalePart$Fact", rfl, uw_X3, Nat.le_of_ble_eq_true rfl, (bw (t_1 _ (List.mem_of_getElem? (i := 164) rfl)) rfl), Or.inl rfl⟩
theorem fp_X3_3_8 : FP RX3 3 8 false := ⟨(RX3, TX3, 13), rfl, rfl, fun h => nomatch h⟩
theorem fl_X3_18_3 : FL RX3 18 3 9 := ⟨(RX3, TX3, 13), "SalePart$Fact", rfl, uw_X3, Nat.le_of_ble_eq_true rfl, (bw (t_1 _ (List.mem_of_getElem? (i := 168) rfl)) rfl), Or.inl rfl⟩
theorem fp_X3_3_9 : FP RX3 3 9 false := ⟨(RX3, TX3, 13), rfl, rfl, fun h => nomatch h⟩
theorem fl_X3_21_3 : FL RX3 21 3 10 := ⟨(RX3, TX3, 13), "SalePart$Fact", rfl, uw_X3, Nat.le_of_ble_eq_true rfl, (bw (t_1 _ (List.mem_of_getElem? (i := 172) rfl)) rfl), Or.inl rfl⟩
theorem fp_X3_3_10 : FP RX3 3 10 false := ⟨(RX3, TX3, 13), rfl, rfl, fun h => nomatch h⟩
theorem fl_X3_24_3 : FL RX3 24 3 11 := ⟨(RX3, TX3, 13), "SalePart$Fact", rfl, uw_X3, Nat.le_of_ble_eq_true rfl, (bw (t_1 _ (List.mem_of_getElem? (i := 176) rfl)) rfl), Or.inl rfl⟩
theorem fp_X3_3_11 : FP RX3 3 11 false := ⟨(RX3, TX3, 13), rfl, rfl, fun h => nomatch h⟩
theorem fl_X3_27_3 : FL RX3 27 3 12 := ⟨(RX3, TX3, 13), "SalePart$Fact", rfl, uw_X3, Nat.le_of_ble_eq_true rfl, (bw (t_1 _ (List.mem_of_getElem? (i := 179) rfl)) rfl), Or.inl rfl⟩
theorem fp_X3_3_12 : FP RX3 3 12 false := ⟨(RX3, TX3, 13), rfl, rfl, fun h => nomatch h⟩
theorem fl_X3_30_3 : FL RX3 30 3 2 := ⟨(RX3, TX3, 13), "SalePart$Fact", rfl, uw_X3, Nat.le_of_ble_eq_true rfl, (bw (t_1 _ (List.mem_of_getElem? (i := 142) rfl)) rfl), Or.inl rfl⟩
theorem fp_X3_3_2 : FP RX3 3 2 true := ⟨(RX3, TX3, 13), rfl, rfl, fun _ => rfl⟩
theorem fl_X3_33_3 : FL RX3 33 3 3 := ⟨(RX3, TX3, 13), "SalePart$Fact", rfl, uw_X3, Nat.le_of_ble_eq_true rfl, (bw (t_1 _ (List.mem_of_getElem? (i := 146) rfl)) rfl), Or.inl rfl⟩
theorem fp_X3_3_3 : FP RX3 3 3 true := ⟨(RX3, TX3, 13), rfl, rfl, fun _ => rfl⟩
theorem fl_X3_36_3 : FL RX3 36 3 4 := ⟨(RX3, TX3, 13), "SalePart$Fact", rfl, uw_X3, Nat.le_of_ble_eq_true rfl, (bw (t_1 _ (List.mem_of_getElem? (i := 149) rfl)) rfl), Or.inl rfl⟩
theorem fp_X3_3_4 : FP RX3 3 4 true := ⟨(RX3, TX3, 13), rfl, rfl, fun _ => rfl⟩
theorem fl_X3_39_3 : FL RX3 39 3 5 := ⟨(RX3, TX3, 13), "SalePart$Fact", rfl, uw_X3, Nat.le_of_ble_eq_true rfl, (bw (t_1 _ (List.mem_of_getElem? (i := 153) rfl)) rfl), Or.inl rfl⟩
theorem fp_X3_3_5 : FP RX3 3 5 true := ⟨(RX3, TX3, 13), rfl, rfl, fun _ => rfl⟩
theorem fl_X3_42_3 : FL RX3 42 3 6 := ⟨(RX3, TX3, 13), "SalePart$Fact", rfl, uw_X3, Nat.le_of_ble_eq_true rfl, (bw (t_1 _ (List.mem_of_getElem? (i := 157) rfl)) rfl), Or.inl rfl⟩
theorem fp_X3_3_6 : FP RX3 3 6 true := ⟨(RX3, TX3, 13), rfl, rfl, fun _ => rfl⟩
theorem fl_X3_45_3 : FL RX3 45 3 0 := ⟨(RX3, TX3, 13), "SalePart$Fact", rfl, uw_X3, Nat.le_of_ble_eq_true rfl, (bw (t_1 _ (List.mem_of_getElem? (i := 183) rfl)) rfl), Or.inr (bw (t_1 _ (List.mem_of_getElem? (i := 184) rfl)) rfl)⟩
theorem fp_X3_3_0 : FP RX3 3 0 false := ⟨(RX3, TX3, 13), rfl, rfl, fun h => nomatch h⟩
theorem fl_X4_55_4 : FL RX4 55 4 14 := ⟨(RX4, TX4, 16), "SalePart$Law", rfl, uw_X4, Nat.le_of_ble_eq_true rfl, (bw (t_2 _ (List.mem_of_getElem? (i := 11) rfl)) rfl), Or.inl rfl⟩
theorem fl_X4_25_4 : FL RX4 25 4 13 := ⟨(RX4, TX4, 16), "SalePart$Law", rfl, uw_X4, Nat.le_of_ble_eq_true rfl, (bw (t_2 _ (List.mem_of_getElem? (i := 10) rfl)) rfl), Or.inl rfl⟩
theorem fp_X4_4_14 : FP RX4 4 14 false := ⟨(RX4, TX4, 16), rfl, rfl, fun h => nomatch h⟩
theorem fl_X4_34_4 : FL RX4 34 4 6 := ⟨(RX4, TX4, 16), "SalePart$Law", rfl, uw_X4, Nat.le_of_ble_eq_true rfl, (bw (t_1 _ (List.mem_of_getElem? (i := 235) rfl)) rfl), Or.inl rfl⟩
theorem fl_X4_18_4 : FL RX4 18 4 4 := ⟨(RX4, TX4, 16), "SalePart$Law", rfl, uw_X4, Nat.le_of_ble_eq_true rfl, (bw (t_1 _ (List.mem_of_getElem? (i := 233) rfl)) rfl), Or.inl rfl⟩
theorem fl_X4_22_4 : FL RX4 22 4 5 := ⟨(RX4, TX4, 16), "SalePart$Law", rfl, uw_X4, Nat.le_of_ble_eq_true rfl, (bw (t_1 _ (List.mem_of_getElem? (i := 234) rfl)) rfl), Or.inl rfl⟩
theorem fp_X4_4_6 : FP RX4 4 6 false := ⟨(RX4, TX4, 16), rfl, rfl, fun h => nomatch h⟩
theorem fl_X4_52_4 : FL RX4 52 4 12 := ⟨(RX4, TX4, 16), "SalePart$Law", rfl, uw_X4, Nat.le_of_ble_eq_true rfl, (bw (t_2 _ (List.mem_of_getElem? (i := 9) rfl)) rfl), Or.inl rfl⟩
theorem fp_X4_4_12 : FP RX4 4 12 false := ⟨(RX4, TX4, 16), rfl, rfl, fun h => nomatch h⟩
theorem fl_X4_37_4 : FL RX4 37 4 7 := ⟨(RX4, TX4, 16), "SalePart$Law", rfl, uw_X4, Nat.le_of_ble_eq_true rfl, (bw (t_1 _ (List.mem_of_getElem? (i := 236) rfl)) rfl), Or.inl rfl⟩
theorem fp_X4_4_7 : FP RX4 4 7 false := ⟨(RX4, TX4, 16), rfl, rfl, fun h => nomatch h⟩
theorem fl_X4_40_4 : FL RX4 40 4 8 := ⟨(RX4, TX4, 16), "SalePart$Law", rfl, uw_X4, Nat.le_of_ble_eq_true rfl, (bw (t_1 _ (List.mem_of_getElem? (i := 238) rfl)) rfl), Or.inl rfl⟩
theorem fp_X4_4_8 : FP RX4 4 8 false := ⟨(RX4, TX4, 16), rfl, rfl, fun h => nomatch h⟩
theorem fl_X4_43_4 : FL RX4 43 4 9 := ⟨(RX4, TX4, 16), "SalePart$Law", rfl, uw_X4, Nat.le_of_ble_eq_true rfl, (bw (t_2 _ (List.mem_of_getElem? (i := 1) rfl)) rfl), Or.inl rfl⟩
theorem fp_X4_4_9 : FP RX4 4 9 false := ⟨(RX4, TX4, 16), rfl, rfl, fun h => nomatch h⟩
theorem fl_X4_46_4 : FL RX4 46 4 10 := ⟨(RX4, TX4, 16), "SalePart$Law", rfl, uw_X4, Nat.le_of_ble_eq_true rfl, (bw (t_2 _ (List.mem_of_getElem? (i := 3) rfl)) rfl), Or.inl rfl⟩
theorem fp_X4_4_10 : FP RX4 4 10 false := ⟨(RX4, TX4, 16), rfl, rfl, fun h => nomatch h⟩
theorem fl_X4_49_4 : FL RX4 49 4 11 := ⟨(RX4, TX4, 16), "SalePart$Law", rfl, uw_X4, Nat.le_of_ble_eq_true rfl, (bw (t_2 _ (List.mem_of_getElem? (i := 6) rfl)) rfl), Or.inl rfl⟩
theorem fp_X4_4_11 : FP RX4 4 11 false := ⟨(RX4, TX4, 16), rfl, rfl, fun h => nomatch h⟩
theorem fl_X4_9_4 : FL RX4 9 4 2 := ⟨(RX4, TX4, 16), "SalePart$Law", rfl, uw_X4, Nat.le_of_ble_eq_true rfl, (bw (t_1 _ (List.mem_of_getElem? (i := 226) rfl)) rfl), Or.inl rfl⟩
theorem fp_X4_4_2 : FP RX4 4 2 false := ⟨(RX4, TX4, 16), rfl, rfl, fun h => nomatch h⟩
theorem fl_X4_15_4 : FL RX4 15 4 3 := ⟨(RX4, TX4, 16), "SalePart$Law", rfl, uw_X4, Nat.le_of_ble_eq_true rfl, (bw (t_1 _ (List.mem_of_getElem? (i := 230) rfl)) rfl), Or.inl rfl⟩
theorem fp_X4_4_3 : FP RX4 4 3 false := ⟨(RX4, TX4, 16), rfl, rfl, fun h => nomatch h⟩
theorem fp_X4_4_4 : FP RX4 4 4 true := ⟨(RX4, TX4, 16), rfl, rfl, fun _ => rfl⟩
theorem fp_X4_4_5 : FP RX4 4 5 true := ⟨(RX4, TX4, 16), rfl, rfl, fun _ => rfl⟩
theorem fp_X4_4_13 : FP RX4 4 13 true := ⟨(RX4, TX4, 16), rfl, rfl, fun _ => rfl⟩
theorem fl_X4_28_4 : FL RX4 28 4 15 := ⟨(RX4, TX4, 16), "SalePart$Law", rfl, uw_X4, Nat.le_of_ble_eq_true rfl, (bw (t_2 _ (List.mem_of_getElem? (i := 12) rfl)) rfl), Or.inl rfl⟩
theorem fp_X4_4_15 : FP RX4 4 15 true := ⟨(RX4, TX4, 16), rfl, rfl, fun _ => rfl⟩
theorem fl_X5_7_5 : FL RX5 7 5 0 := ⟨(RX5, TX5, 2), "SalePart$Person", rfl, uw_X5, Nat.le_of_ble_eq_true rfl, (bw (t_1 _ (List.mem_of_getElem? (i := 56) rfl)) rfl), Or.inl rfl⟩
theorem fp_X5_5_0 : FP RX5 5 0 true := ⟨(RX5, TX5, 2), rfl, rfl, fun _ => rfl⟩
theorem fl_X5_13_5 : FL RX5 13 5 1 := ⟨(RX5, TX5, 2), "SalePart$Person", rfl, uw_X5, Nat.le_of_ble_eq_true rfl, (bw (t_1 _ (List.mem_of_getElem? (i := 58) rfl)) rfl), Or.inl rfl⟩
theorem fp_X5_5_1 : FP RX5 5 1 true := ⟨(RX5, TX5, 2), rfl, rfl, fun _ => rfl⟩
theorem fl_X6_7_6 : FL RX6 7 6 0 := ⟨(RX6, TX6, 3), "SalePart$Rate", rfl, uw_X6, Nat.le_of_ble_eq_true rfl, (bw (t_1 _ (List.mem_of_getElem? (i := 119) rfl)) rfl), Or.inl rfl⟩
theorem fp_X6_6_0 : FP RX6 6 0 true := ⟨(RX6, TX6, 3), rfl, rfl, fun _ => rfl⟩
theorem fl_X6_13_6 : FL RX6 13 6 1 := ⟨(RX6, TX6, 3), "SalePart$Rate", rfl, uw_X6, Nat.le_of_ble_eq_true rfl, (bw (t_1 _ (List.mem_of_getElem? (i := 121) rfl)) rfl), Or.inl rfl⟩
theorem fp_X6_6_1 : FP RX6 6 1 true := ⟨(RX6, TX6, 3), rfl, rfl, fun _ => rfl⟩
theorem fl_X6_16_6 : FL RX6 16 6 2 := ⟨(RX6, TX6, 3), "SalePart$Rate", rfl, uw_X6, Nat.le_of_ble_eq_true rfl, (bw (t_1 _ (List.mem_of_getElem? (i := 123) rfl)) rfl), Or.inl rfl⟩
theorem fp_X6_6_2 : FP RX6 6 2 true := ⟨(RX6, TX6, 3), rfl, rfl, fun _ => rfl⟩
theorem fl_X7_9_7 : FL RX7 9 7 0 := ⟨(RX7, TX7, 11), "SalePart$Reader", rfl, uw_X7, Nat.le_of_ble_eq_true rfl, (bw (t_2 _ (List.mem_of_getElem? (i := 225) rfl)) rfl), Or.inl rfl⟩
theorem fp_X7_7_0 : FP RX7 7 0 false := ⟨(RX7, TX7, 11), rfl, rfl, fun h => nomatch h⟩
theorem fl_X7_15_7 : FL RX7 15 7 1 := ⟨(RX7, TX7, 11), "SalePart$Reader", rfl, uw_X7, Nat.le_of_ble_eq_true rfl, (bw (t_2 _ (List.mem_of_getElem? (i := 226) rfl)) rfl), Or.inl rfl⟩
theorem fp_X7_7_1 : FP RX7 7 1 false := ⟨(RX7, TX7, 11), rfl, rfl, fun h => nomatch h⟩
theorem fl_X7_19_7 : FL RX7 19 7 2 := ⟨(RX7, TX7, 11), "SalePart$Reader", rfl, uw_X7, Nat.le_of_ble_eq_true rfl, (bw (t_2 _ (List.mem_of_getElem? (i := 227) rfl)) rfl), Or.inl rfl⟩
theorem fp_X7_7_2 : FP RX7 7 2 false := ⟨(RX7, TX7, 11), rfl, rfl, fun h => nomatch h⟩
theorem fl_X7_25_7 : FL RX7 25 7 3 := ⟨(RX7, TX7, 11), "SalePart$Reader", rfl, uw_X7, Nat.le_of_ble_eq_true rfl, (bw (t_2 _ (List.mem_of_getElem? (i := 228) rfl)) rfl), Or.inl rfl⟩
theorem fp_X7_7_3 : FP RX7 7 3 false := ⟨(RX7, TX7, 11), rfl, rfl, fun h => nomatch h⟩
theorem fl_X7_29_7 : FL RX7 29 7 4 := ⟨(RX7, TX7, 11), "SalePart$Reader", rfl, uw_X7, Nat.le_of_ble_eq_true rfl, (bw (t_2 _ (List.mem_of_getElem? (i := 229) rfl)) rfl), Or.inl rfl⟩
theorem fp_X7_7_4 : FP RX7 7 4 false := ⟨(RX7, TX7, 11), rfl, rfl, fun h => nomatch h⟩
theorem fl_X7_32_7 : FL RX7 32 7 5 := ⟨(RX7, TX7, 11), "SalePart$Reader", rfl, uw_X7, Nat.le_of_ble_eq_true rfl, (bw (t_2 _ (List.mem_of_getElem? (i := 230) rfl)) rfl), Or.inl rfl⟩
theorem fp_X7_7_5 : FP RX7 7 5 false := ⟨(RX7, TX7, 11), rfl, rfl, fun h => nomatch h⟩
theorem fl_X7_35_7 : FL RX7 35 7 6 := ⟨(RX7, TX7, 11), "SalePart$Reader", rfl, uw_X7, Nat.le_of_ble_eq_true rfl, (bw (t_2 _ (List.mem_of_getElem? (i := 232) rfl)) rfl), Or.inl rfl⟩
theorem fp_X7_7_6 : FP RX7 7 6 false := ⟨(RX7, TX7, 11), rfl, rfl, fun h => nomatch h⟩
theorem fl_X7_38_7 : FL RX7 38 7 7 := ⟨(RX7, TX7, 11), "SalePart$Reader", rfl, uw_X7, Nat.le_of_ble_eq_true rfl, (bw (t_2 _ (List.mem_of_getElem? (i := 233) rfl)) rfl), Or.inl rfl⟩
theorem fp_X7_7_7 : FP RX7 7 7 false := ⟨(RX7, TX7, 11), rfl, rfl, fun h => nomatch h⟩
theorem fl_X7_41_7 : FL RX7 41 7 8 := ⟨(RX7, TX7, 11), "SalePart$Reader", rfl, uw_X7, Nat.le_of_ble_eq_true rfl, (bw (t_2 _ (List.mem_of_getElem? (i := 234) rfl)) rfl), Or.inl rfl⟩
theorem fp_X7_7_8 : FP RX7 7 8 false := ⟨(RX7, TX7, 11), rfl, rfl, fun h => nomatch h⟩
theorem fl_X7_44_7 : FL RX7 44 7 9 := ⟨(RX7, TX7, 11), "SalePart$Reader", rfl, uw_X7, Nat.le_of_ble_eq_true rfl, (bw (t_2 _ (List.mem_of_getElem? (i := 235) rfl)) rfl), Or.inl rfl⟩
theorem fp_X7_7_9 : FP RX7 7 9 false := ⟨(RX7, TX7, 11), rfl, rfl, fun h => nomatch h⟩
theorem fl_X7_47_7 : FL RX7 47 7 10 := ⟨(RX7, TX7, 11), "SalePart$Reader", rfl, uw_X7, Nat.le_of_ble_eq_true rfl, (bw (t_2 _ (List.mem_of_getElem? (i := 236) rfl)) rfl), Or.inl rfl⟩
theorem fp_X7_7_10 : FP RX7 7 10 false := ⟨(RX7, TX7, 11), rfl, rfl, fun h => nomatch h⟩
theorem fl_X7_117_4 : FL RX7 117 4 7 := ⟨(RX4, TX4, 16), "SalePart$Law", rfl, uw_X4, Nat.le_of_ble_eq_true rfl, (bw (t_1 _ (List.mem_of_getElem? (i := 237) rfl)) rfl), Or.inl rfl⟩
theorem fp_X7_4_7 : FP RX7 4 7 false := ⟨(RX4, TX4, 16), rfl, rfl, fun h => nomatch h⟩
theorem fl_X7_120_4 : FL RX7 120 4 8 := ⟨(RX4, TX4, 16), "SalePart$Law", rfl, uw_X4, Nat.le_of_ble_eq_true rfl, (bw (t_2 _ (List.mem_of_getElem? (i := 0) rfl)) rfl), Or.inl rfl⟩
theorem fp_X7_4_8 : FP RX7 4 8 false := ⟨(RX4, TX4, 16), rfl, rfl, fun h => nomatch h⟩
theorem fl_X7_123_4 : FL RX7 123 4 9 := ⟨(RX4, TX4, 16), "SalePart$Law", rfl, uw_X4, Nat.le_of_ble_eq_true rfl, (bw (t_2 _ (List.mem_of_getElem? (i := 2) rfl)) rfl), Or.inl rfl⟩
theorem fp_X7_4_9 : FP RX7 4 9 false := ⟨(RX4, TX4, 16), rfl, rfl, fun h => nomatch h⟩
theorem fl_X7_126_4 : FL RX7 126 4 10 := ⟨(RX4, TX4, 16), "SalePart$Law", rfl, uw_X4, Nat.le_of_ble_eq_true rfl, (bw (t_2 _ (List.mem_of_getElem? (i := 5) rfl)) rfl), Or.inl rfl⟩
theorem fp_X7_4_10 : FP RX7 4 10 false := ⟨(RX4, TX4, 16), rfl, rfl, fun h => nomatch h⟩
theorem fl_X7_129_4 : FL RX7 129 4 11 := ⟨(RX4, TX4, 16), "SalePart$Law", rfl, uw_X4, Nat.le_of_ble_eq_true rfl, (bw (t_2 _ (List.mem_of_getElem? (i := 7) rfl)) rfl), Or.inl rfl⟩
theorem fp_X7_4_11 : FP RX7 4 11 false := ⟨(RX4, TX4, 16), rfl, rfl, fun h => nomatch h⟩
theorem fl_X8_7_8 : FL RX8 7 8 0 := ⟨(RX8, TX8, 2), "SalePart$Society", rfl, uw_X8, Nat.le_of_ble_eq_true rfl, (bw (t_1 _ (List.mem_of_getElem? (i := 105) rfl)) rfl), Or.inl rfl⟩
theorem fp_X8_8_0 : FP RX8 8 0 true := ⟨(RX8, TX8, 2), rfl, rfl, fun _ => rfl⟩
theorem fl_X8_13_8 : FL RX8 13 8 1 := ⟨(RX8, TX8, 2), "SalePart$Society", rfl, uw_X8, Nat.le_of_ble_eq_true rfl, (bw (t_1 _ (List.mem_of_getElem? (i := 107) rfl)) rfl), Or.inl rfl⟩
theorem fp_X8_8_1 : FP RX8 8 1 true := ⟨(RX8, TX8, 2), rfl, rfl, fun _ => rfl⟩
theorem fl_X9_10_3 : FL RX9 10 3 0 := ⟨(RX3, TX3, 13), "SalePart$Told", rfl, uw_X3, Nat.le_of_ble_eq_true rfl, (bw (t_1 _ (List.mem_of_getElem? (i := 182) rfl)) rfl), Or.inl rfl⟩
theorem fl_X9_10_4 : FL RX9 10 4 0 := ⟨(RX4, TX4, 16), "SalePart$Told", rfl, uw_X4, Nat.le_of_ble_eq_true rfl, (bw (t_1 _ (List.mem_of_getElem? (i := 182) rfl)) rfl), Or.inl rfl⟩
theorem fp_X9_3_0 : FP RX9 3 0 false := ⟨(RX3, TX3, 13), rfl, rfl, fun h => nomatch h⟩
theorem fp_X9_4_0 : FP RX9 4 0 false := ⟨(RX4, TX4, 16), rfl, rfl, fun h => nomatch h⟩
theorem fl_X9_16_3 : FL RX9 16 3 1 := ⟨(RX3, TX3, 13), "SalePart$Told", rfl, uw_X3, Nat.le_of_ble_eq_true rfl, (bw (t_1 _ (List.mem_of_getElem? (i := 188) rfl)) rfl), Or.inl rfl⟩
theorem fl_X9_16_4 : FL RX9 16 4 1 := ⟨(RX4, TX4, 16), "SalePart$Told", rfl, uw_X4, Nat.le_of_ble_eq_true rfl, (bw (t_1 _ (List.mem_of_getElem? (i := 188) rfl)) rfl), Or.inl rfl⟩
theorem fp_X9_3_1 : FP RX9 3 1 false := ⟨(RX3, TX3, 13), rfl, rfl, fun h => nomatch h⟩
theorem fp_X9_4_1 : FP RX9 4 1 false := ⟨(RX4, TX4, 16), rfl, rfl, fun h => nomatch h⟩
theorem ml_X0_apply : MLc yX0_apply cX0_apply 4 none 1 := ⟨bw (t_5 _ (List.mem_of_getElem? (i := 136) rfl)) rfl, (bw (t_1 _ (List.mem_of_getElem? (i := 10) rfl)) rfl), by decide +kernel, by decide +kernel, by decide +kernel⟩
theorem mv_X0_apply : MLv yX0_apply := ⟨(bw (t_5 _ (List.mem_of_getElem? (i := 134) rfl)) rfl), (bw (t_5 _ (List.mem_of_getElem? (i := 135) rfl)) rfl)⟩
theorem ml_X0_fillValues : MLc yX0_fillValues cX0_fillValues 2 none 1 := ⟨bw (t_5 _ (List.mem_of_getElem? (i := 119) rfl)) rfl, (bw (t_1 _ (List.mem_of_getElem? (i := 10) rfl)) rfl), by decide +kernel, by decide +kernel, by decide +kernel⟩
theorem mv_X0_fillValues : MLv yX0_fillValues := ⟨(bw (t_5 _ (List.mem_of_getElem? (i := 118) rfl)) rfl), (bw (List.mem_append_left tables_1 (List.mem_of_getElem? (l := k2_sels lw_privs) (i := 25) rfl)) rfl)⟩
theorem ml_X0_goOneRound : MLc yX0_goOneRound cX0_goOneRound 6 (some .boolean) 0 := ⟨bw (t_5 _ (List.mem_of_getElem? (i := 184) rfl)) rfl, (bw (t_1 _ (List.mem_of_getElem? (i := 10) rfl)) rfl), by decide +kernel, by decide +kernel, by decide +kernel⟩
theorem mv_X0_goOneRound : MLv yX0_goOneRound := ⟨(bw (t_5 _ (List.mem_of_getElem? (i := 183) rfl)) rfl), (bw (List.mem_append_left tables_1 (List.mem_of_getElem? (l := k2_sels lw_privs) (i := 30) rfl)) rfl)⟩
theorem ml_X0_gottenBy : MLc yX0_gottenBy cX0_gottenBy 6 (some .int) 3 := ⟨bw (t_5 _ (List.mem_of_getElem? (i := 196) rfl)) rfl, (bw (t_1 _ (List.mem_of_getElem? (i := 10) rfl)) rfl), by decide +kernel, by decide +kernel, by decide +kernel⟩
theorem mv_X0_gottenBy : MLv yX0_gottenBy := ⟨(bw (t_5 _ (List.mem_of_getElem? (i := 195) rfl)) rfl), (bw (List.mem_append_left tables_1 (List.mem_of_getElem? (l := k2_sels lw_privs) (i := 32) rfl)) rfl)⟩
theorem ml_X0_init : MLc yX0_init cX0_init 2 none 1 := ⟨bw (t_2 _ (List.mem_of_getElem? (i := 114) rfl)) rfl, (bw (t_1 _ (List.mem_of_getElem? (i := 10) rfl)) rfl), by decide +kernel, by decide +kernel, by decide +kernel⟩
theorem mi_X0_init : Cond.instanceMethod yX0_init ∈ BW ∧ yX0_init.name = "<init>" := ⟨(bw (t_2 _ (List.mem_of_getElem? (i := 113) rfl)) rfl), rfl⟩
theorem ml_X0_isDead : MLc yX0_isDead cX0_isDead 2 (some .boolean) 1 := ⟨bw (t_5 _ (List.mem_of_getElem? (i := 180) rfl)) rfl, (bw (t_1 _ (List.mem_of_getElem? (i := 10) rfl)) rfl), by decide +kernel, by decide +kernel, by decide +kernel⟩
theorem mv_X0_isDead : MLv yX0_isDead := ⟨(bw (t_5 _ (List.mem_of_getElem? (i := 179) rfl)) rfl), (bw (List.mem_append_left tables_1 (List.mem_of_getElem? (l := k2_sels lw_privs) (i := 29) rfl)) rfl)⟩
theorem ml_X0_look : MLc yX0_look cX0_look 6 none 1 := ⟨bw (t_5 _ (List.mem_of_getElem? (i := 100) rfl)) rfl, (bw (t_1 _ (List.mem_of_getElem? (i := 10) rfl)) rfl), by decide +kernel, by decide +kernel, by decide +kernel⟩
theorem mv_X0_look : MLv yX0_look := ⟨(bw (t_5 _ (List.mem_of_getElem? (i := 98) rfl)) rfl), (bw (t_5 _ (List.mem_of_getElem? (i := 99) rfl)) rfl)⟩
theorem ml_X0_open : MLc yX0_open cX0_open 4 none 1 := ⟨bw (t_5 _ (List.mem_of_getElem? (i := 89) rfl)) rfl, (bw (t_1 _ (List.mem_of_getElem? (i := 10) rfl)) rfl), by decide +kernel, by decide +kernel, by decide +kernel⟩
theorem mv_X0_open : MLv yX0_open := ⟨(bw (t_5 _ (List.mem_of_getElem? (i := 87) rfl)) rfl), (bw (t_5 _ (List.mem_of_getElem? (i := 88) rfl)) rfl)⟩
theorem ml_X0_passOn : MLc yX0_passOn cX0_passOn 3 none 0 := ⟨bw (t_5 _ (List.mem_of_getElem? (i := 176) rfl)) rfl, (bw (t_1 _ (List.mem_of_getElem? (i := 10) rfl)) rfl), by decide +kernel, by decide +kernel, by decide +kernel⟩
theorem mv_X0_passOn : MLv yX0_passOn := ⟨(bw (t_5 _ (List.mem_of_getElem? (i := 175) rfl)) rfl), (bw (List.mem_append_left tables_1 (List.mem_of_getElem? (l := k2_sels lw_privs) (i := 28) rfl)) rfl)⟩
theorem ml_X0_payOut : MLc yX0_payOut cX0_payOut 4 none 2 := ⟨bw (t_5 _ (List.mem_of_getElem? (i := 188) rfl)) rfl, (bw (t_1 _ (List.mem_of_getElem? (i := 10) rfl)) rfl), by decide +kernel, by decide +kernel, by decide +kernel⟩
theorem mv_X0_payOut : MLv yX0_payOut := ⟨(bw (t_5 _ (List.mem_of_getElem? (i := 187) rfl)) rfl), (bw (List.mem_append_left tables_1 (List.mem_of_getElem? (l := k2_sels lw_privs) (i := 31) rfl)) rfl)⟩
theorem ml_X0_settle : MLc yX0_settle cX0_settle 4 none 2 := ⟨bw (t_5 _ (List.mem_of_getElem? (i := 96) rfl)) rfl, (bw (t_1 _ (List.mem_of_getElem? (i := 10) rfl)) rfl), by decide +kernel, by decide +kernel, by decide +kernel⟩
theorem mv_X0_settle : MLv yX0_settle := ⟨(bw (t_5 _ (List.mem_of_getElem? (i := 94) rfl)) rfl), (bw (t_5 _ (List.mem_of_getElem? (i := 95) rfl)) rfl)⟩
theorem ml_X0_statusOf : MLc yX0_statusOf cX0_statusOf 4 (some .int) 2 := ⟨bw (t_5 _ (List.mem_of_getElem? (i := 168) rfl)) rfl, (bw (t_1 _ (List.mem_of_getElem? (i := 10) rfl)) rfl), by decide +kernel, by decide +kernel, by decide +kernel⟩
theorem mv_X0_statusOf : MLv yX0_statusOf := ⟨(bw (t_5 _ (List.mem_of_getElem? (i := 167) rfl)) rfl), (bw (List.mem_append_left tables_1 (List.mem_of_getElem? (l := k2_sels lw_privs) (i := 27) rfl)) rfl)⟩
theorem ml_X1_addFact : MLc yX1_addFact cX1_addFact 2 (some .int) 1 := ⟨bw (t_4 _ (List.mem_of_getElem? (i := 18) rfl)) rfl, (bw (t_1 _ (List.mem_of_getElem? (i := 2) rfl)) rfl), by decide +kernel, by decide +kernel, by decide +kernel⟩
theorem mv_X1_addFact : MLv yX1_addFact := ⟨(bw (t_4 _ (List.mem_of_getElem? (i := 16) rfl)) rfl), (bw (t_4 _ (List.mem_of_getElem? (i := 17) rfl)) rfl)⟩
theorem ml_X1_claimAt : MLc yX1_claimAt cX1_claimAt 2 (some (.object "SalePart$Fact")) 1 := ⟨bw (t_4 _ (List.mem_of_getElem? (i := 95) rfl)) rfl, (bw (t_1 _ (List.mem_of_getElem? (i := 2) rfl)) rfl), by decide +kernel, by decide +kernel, by decide +kernel⟩
theorem mv_X1_claimAt : MLv yX1_claimAt := ⟨(bw (t_4 _ (List.mem_of_getElem? (i := 93) rfl)) rfl), (bw (t_4 _ (List.mem_of_getElem? (i := 94) rfl)) rfl)⟩
theorem ml_X1_claimOf : MLc yX1_claimOf cX1_claimOf 4 (some .int) 2 := ⟨bw (t_4 _ (List.mem_of_getElem? (i := 91) rfl)) rfl, (bw (t_1 _ (List.mem_of_getElem? (i := 2) rfl)) rfl), by decide +kernel, by decide +kernel, by decide +kernel⟩
theorem mv_X1_claimOf : MLv yX1_claimOf := ⟨(bw (t_4 _ (List.mem_of_getElem? (i := 89) rfl)) rfl), (bw (t_4 _ (List.mem_of_getElem? (i := 90) rfl)) rfl)⟩
theorem ml_X1_collectorIn : MLc yX1_collectorIn cX1_collectorIn 3 (some .int) 1 := ⟨bw (t_5 _ (List.mem_of_getElem? (i := 206) rfl)) rfl, (bw (t_1 _ (List.mem_of_getElem? (i := 2) rfl)) rfl), by decide +kernel, by decide +kernel, by decide +kernel⟩
theorem mv_X1_collectorIn : MLv yX1_collectorIn := ⟨(bw (t_5 _ (List.mem_of_getElem? (i := 204) rfl)) rfl), (bw (t_5 _ (List.mem_of_getElem? (i := 205) rfl)) rfl)⟩
theorem ml_X1_factAt : MLc yX1_factAt cX1_factAt 2 (some (.object "SalePart$Fact")) 1 := ⟨bw (t_2 _ (List.mem_of_getElem? (i := 119) rfl)) rfl, (bw (t_1 _ (List.mem_of_getElem? (i := 2) rfl)) rfl), by decide +kernel, by decide +kernel, by decide +kernel⟩
theorem mv_X1_factAt : MLv yX1_factAt := ⟨(bw (t_2 _ (List.mem_of_getElem? (i := 117) rfl)) rfl), (bw (t_2 _ (List.mem_of_getElem? (i := 118) rfl)) rfl)⟩
theorem ml_X1_handBehind : MLc yX1_handBehind cX1_handBehind 10 (some .int) 3 := ⟨bw (t_6 _ (List.mem_of_getElem? (i := 80) rfl)) rfl, (bw (t_1 _ (List.mem_of_getElem? (i := 2) rfl)) rfl), by decide +kernel, by decide +kernel, by decide +kernel⟩
theorem mv_X1_handBehind : MLv yX1_handBehind := ⟨(bw (t_6 _ (List.mem_of_getElem? (i := 78) rfl)) rfl), (bw (t_6 _ (List.mem_of_getElem? (i := 79) rfl)) rfl)⟩
theorem ml_X1_hasAllFacts : MLc yX1_hasAllFacts cX1_hasAllFacts 1 (some .boolean) 0 := ⟨bw (t_4 _ (List.mem_of_getElem? (i := 12) rfl)) rfl, (bw (t_1 _ (List.mem_of_getElem? (i := 2) rfl)) rfl), by decide +kernel, by decide +kernel, by decide +kernel⟩
theorem mv_X1_hasAllFacts : MLv yX1_hasAllFacts := ⟨(bw (t_4 _ (List.mem_of_getElem? (i := 10) rfl)) rfl), (bw (t_4 _ (List.mem_of_getElem? (i := 11) rfl)) rfl)⟩
theorem ml_X1_inheritedOf : MLc yX1_inheritedOf cX1_inheritedOf 5 (some .int) 1 := ⟨bw (t_4 _ (List.mem_of_getElem? (i := 30) rfl)) rfl, (bw (t_1 _ (List.mem_of_getElem? (i := 2) rfl)) rfl), by decide +kernel, by decide +kernel, by decide +kernel⟩
theorem mv_X1_inheritedOf : MLv yX1_inheritedOf := ⟨(bw (t_4 _ (List.mem_of_getElem? (i := 28) rfl)) rfl), (bw (t_4 _ (List.mem_of_getElem? (i := 29) rfl)) rfl)⟩
theorem ml_X1_init : MLc yX1_init cX1_init 8 none 0 := ⟨bw (t_1 _ (List.mem_of_getElem? (i := 37) rfl)) rfl, (bw (t_1 _ (List.mem_of_getElem? (i := 2) rfl)) rfl), by decide +kernel, by decide +kernel, by decide +kernel⟩
theorem mi_X1_init : Cond.instanceMethod yX1_init ∈ BW ∧ yX1_init.name = "<init>" := ⟨(bw (t_1 _ (List.mem_of_getElem? (i := 36) rfl)) rfl), rfl⟩
theorem ml_X1_lawAt : MLc yX1_lawAt cX1_lawAt 2 (some (.object "SalePart$Law")) 1 := ⟨bw (t_4 _ (List.mem_of_getElem? (i := 73) rfl)) rfl, (bw (t_1 _ (List.mem_of_getElem? (i := 2) rfl)) rfl), by decide +kernel, by decide +kernel, by decide +kernel⟩
theorem mv_X1_lawAt : MLv yX1_lawAt := ⟨(bw (t_4 _ (List.mem_of_getElem? (i := 71) rfl)) rfl), (bw (t_4 _ (List.mem_of_getElem? (i := 72) rfl)) rfl)⟩
theorem ml_X1_lawFor : MLc yX1_lawFor cX1_lawFor 8 (some .int) 3 := ⟨bw (t_5 _ (List.mem_of_getElem? (i := 127) rfl)) rfl, (bw (t_1 _ (List.mem_of_getElem? (i := 2) rfl)) rfl), by decide +kernel, by decide +kernel, by decide +kernel⟩
theorem mv_X1_lawFor : MLv yX1_lawFor := ⟨(bw (t_5 _ (List.mem_of_getElem? (i := 125) rfl)) rfl), (bw (t_5 _ (List.mem_of_getElem? (i := 126) rfl)) rfl)⟩
theorem ml_X1_mandateOf : MLc yX1_mandateOf cX1_mandateOf 8 (some .int) 3 := ⟨bw (t_5 _ (List.mem_of_getElem? (i := 192) rfl)) rfl, (bw (t_1 _ (List.mem_of_getElem? (i := 2) rfl)) rfl), by decide +kernel, by decide +kernel, by decide +kernel⟩
theorem mv_X1_mandateOf : MLv yX1_mandateOf := ⟨(bw (t_5 _ (List.mem_of_getElem? (i := 190) rfl)) rfl), (bw (t_5 _ (List.mem_of_getElem? (i := 191) rfl)) rfl)⟩
theorem ml_X1_personAt : MLc yX1_personAt cX1_personAt 2 (some (.object "SalePart$Person")) 1 := ⟨bw (t_5 _ (List.mem_of_getElem? (i := 123) rfl)) rfl, (bw (t_1 _ (List.mem_of_getElem? (i := 2) rfl)) rfl), by decide +kernel, by decide +kernel, by decide +kernel⟩
theorem mv_X1_personAt : MLv yX1_personAt := ⟨(bw (t_5 _ (List.mem_of_getElem? (i := 121) rfl)) rfl), (bw (t_5 _ (List.mem_of_getElem? (i := 122) rfl)) rfl)⟩
theorem ml_X1_rateAt : MLc yX1_rateAt cX1_rateAt 2 (some (.object "SalePart$Rate")) 1 := ⟨bw (t_5 _ (List.mem_of_getElem? (i := 108) rfl)) rfl, (bw (t_1 _ (List.mem_of_getElem? (i := 2) rfl)) rfl), by decide +kernel, by decide +kernel, by decide +kernel⟩
theorem mv_X1_rateAt : MLv yX1_rateAt := ⟨(bw (t_5 _ (List.mem_of_getElem? (i := 106) rfl)) rfl), (bw (t_5 _ (List.mem_of_getElem? (i := 107) rfl)) rfl)⟩
theorem ml_X1_rateFor : MLc yX1_rateFor cX1_rateFor 6 (some .int) 2 := ⟨bw (t_5 _ (List.mem_of_getElem? (i := 104) rfl)) rfl, (bw (t_1 _ (List.mem_of_getElem? (i := 2) rfl)) rfl), by decide +kernel, by decide +kernel, by decide +kernel⟩
theorem mv_X1_rateFor : MLv yX1_rateFor := ⟨(bw (t_5 _ (List.mem_of_getElem? (i := 102) rfl)) rfl), (bw (t_5 _ (List.mem_of_getElem? (i := 103) rfl)) rfl)⟩
theorem ml_X1_societyAt : MLc yX1_societyAt cX1_societyAt 2 (some (.object "SalePart$Society")) 1 := ⟨bw (t_5 _ (List.mem_of_getElem? (i := 200) rfl)) rfl, (bw (t_1 _ (List.mem_of_getElem? (i := 2) rfl)) rfl), by decide +kernel, by decide +kernel, by decide +kernel⟩
theorem mv_X1_societyAt : MLv yX1_societyAt := ⟨(bw (t_5 _ (List.mem_of_getElem? (i := 198) rfl)) rfl), (bw (t_5 _ (List.mem_of_getElem? (i := 199) rfl)) rfl)⟩
theorem ml_X1_wasEverSold : MLc yX1_wasEverSold cX1_wasEverSold 3 (some .boolean) 1 := ⟨bw (t_3 _ (List.mem_of_getElem? (i := 207) rfl)) rfl, (bw (t_1 _ (List.mem_of_getElem? (i := 2) rfl)) rfl), by decide +kernel, by decide +kernel, by decide +kernel⟩
theorem mv_X1_wasEverSold : MLv yX1_wasEverSold := ⟨(bw (t_3 _ (List.mem_of_getElem? (i := 205) rfl)) rfl), (bw (t_3 _ (List.mem_of_getElem? (i := 206) rfl)) rfl)⟩
theorem ml_X1_workAt : MLc yX1_workAt cX1_workAt 2 (some (.object "SalePart$Work")) 1 := ⟨bw (t_2 _ (List.mem_of_getElem? (i := 123) rfl)) rfl, (bw (t_1 _ (List.mem_of_getElem? (i := 2) rfl)) rfl), by decide +kernel, by decide +kernel, by decide +kernel⟩
theorem mv_X1_workAt : MLv yX1_workAt := ⟨(bw (t_2 _ (List.mem_of_getElem? (i := 121) rfl)) rfl), (bw (t_2 _ (List.mem_of_getElem? (i := 122) rfl)) rfl)⟩
theorem ml_X10_addArtist : MLc yX10_addArtist cX10_addArtist 3 none 2 := ⟨bw (t_3 _ (List.mem_of_getElem? (i := 182) rfl)) rfl, (bw (t_1 _ (List.mem_of_getElem? (i := 4) rfl)) rfl), by decide +kernel, by decide +kernel, by decide +kernel⟩
theorem mv_X10_addArtist : MLv yX10_addArtist := ⟨(bw (t_3 _ (List.mem_of_getElem? (i := 180) rfl)) rfl), (bw (t_3 _ (List.mem_of_getElem? (i := 181) rfl)) rfl)⟩
theorem ml_X10_init : MLc yX10_init cX10_init 5 none 4 := ⟨bw (t_1 _ (List.mem_of_getElem? (i := 68) rfl)) rfl, (bw (t_1 _ (List.mem_of_getElem? (i := 4) rfl)) rfl), by decide +kernel, by decide +kernel, by decide +kernel⟩
theorem mi_X10_init : Cond.instanceMethod yX10_init ∈ BW ∧ yX10_init.name = "<init>" := ⟨(bw (t_1 _ (List.mem_of_getElem? (i := 67) rfl)) rfl), rfl⟩
theorem ml_X10_isBy : MLc yX10_isBy cX10_isBy 2 (some .boolean) 1 := ⟨bw (t_3 _ (List.mem_of_getElem? (i := 199) rfl)) rfl, (bw (t_1 _ (List.mem_of_getElem? (i := 4) rfl)) rfl), by decide +kernel, by decide +kernel, by decide +kernel⟩
theorem mv_X10_isBy : MLv yX10_isBy := ⟨(bw (t_3 _ (List.mem_of_getElem? (i := 197) rfl)) rfl), (bw (t_3 _ (List.mem_of_getElem? (i := 198) rfl)) rfl)⟩
theorem ml_X10_mayBe : MLc yX10_mayBe cX10_mayBe 5 (some .boolean) 4 := ⟨bw (t_6 _ (List.mem_of_getElem? (i := 57) rfl)) rfl, (bw (t_1 _ (List.mem_of_getElem? (i := 4) rfl)) rfl), by decide +kernel, by decide +kernel, by decide +kernel⟩
theorem mv_X10_mayBe : MLv yX10_mayBe := ⟨(bw (t_6 _ (List.mem_of_getElem? (i := 55) rfl)) rfl), (bw (t_6 _ (List.mem_of_getElem? (i := 56) rfl)) rfl)⟩
theorem ml_X10_weightOf : MLc yX10_weightOf cX10_weightOf 3 (some .int) 1 := ⟨bw (t_3 _ (List.mem_of_getElem? (i := 203) rfl)) rfl, (bw (t_1 _ (List.mem_of_getElem? (i := 4) rfl)) rfl), by decide +kernel, by decide +kernel, by decide +kernel⟩
theorem mv_X10_weightOf : MLv yX10_weightOf := ⟨(bw (t_3 _ (List.mem_of_getElem? (i := 201) rfl)) rfl), (bw (t_3 _ (List.mem_of_getElem? (i := 202) rfl)) rfl)⟩
theorem ml_X11_addShares : MLc yX11_addShares cX11_addShares 3 none 1 := ⟨bw (t_6 _ (List.mem_of_getElem? (i := 102) rfl)) rfl, (bw (t_1 _ (List.mem_of_getElem? (i := 1) rfl)) rfl), by decide +kernel, by decide +kernel, by decide +kernel⟩
theorem mv_X11_addShares : MLv yX11_addShares := ⟨(bw (t_6 _ (List.mem_of_getElem? (i := 101) rfl)) rfl), (bw (List.mem_append_left tables_1 (List.mem_of_getElem? (l := k2_sels lw_privs) (i := 36) rfl)) rfl)⟩
theorem ml_X11_again : MLc yX11_again cX11_again 7 (some .int) 4 := ⟨bw (t_6 _ (List.mem_of_getElem? (i := 52) rfl)) rfl, (bw (t_1 _ (List.mem_of_getElem? (i := 1) rfl)) rfl), by decide +kernel, by decide +kernel, by decide +kernel⟩
theorem mv_X11_again : MLv yX11_again := ⟨(bw (t_6 _ (List.mem_of_getElem? (i := 50) rfl)) rfl), (bw (t_6 _ (List.mem_of_getElem? (i := 51) rfl)) rfl)⟩
theorem ml_X11_attempt : MLc yX11_attempt cX11_attempt 5 (some .int) 3 := ⟨bw (t_6 _ (List.mem_of_getElem? (i := 92) rfl)) rfl, (bw (t_1 _ (List.mem_of_getElem? (i := 1) rfl)) rfl), by decide +kernel, by decide +kernel, by decide +kernel⟩
theorem mv_X11_attempt : MLv yX11_attempt := ⟨(bw (t_6 _ (List.mem_of_getElem? (i := 90) rfl)) rfl), (bw (t_6 _ (List.mem_of_getElem? (i := 91) rfl)) rfl)⟩
theorem ml_X11_back : MLc yX11_back cX11_back 4 (some .boolean) 2 := ⟨bw (t_4 _ (List.mem_of_getElem? (i := 68) rfl)) rfl, (bw (t_1 _ (List.mem_of_getElem? (i := 1) rfl)) rfl), by decide +kernel, by decide +kernel, by decide +kernel⟩
theorem mv_X11_back : MLv yX11_back := ⟨(bw (t_4 _ (List.mem_of_getElem? (i := 66) rfl)) rfl), (bw (t_4 _ (List.mem_of_getElem? (i := 67) rfl)) rfl)⟩
theorem ml_X11_claim : MLc yX11_claim cX11_claim 3 (some .boolean) 2 := ⟨bw (t_4 _ (List.mem_of_getElem? (i := 82) rfl)) rfl, (bw (t_1 _ (List.mem_of_getElem? (i := 1) rfl)) rfl), by decide +kernel, by decide +kernel, by decide +kernel⟩
theorem mv_X11_claim : MLv yX11_claim := ⟨(bw (t_4 _ (List.mem_of_getElem? (i := 80) rfl)) rfl), (bw (t_4 _ (List.mem_of_getElem? (i := 81) rfl)) rfl)⟩
theorem ml_X11_count : MLc yX11_count cX11_count 2 (some .int) 1 := ⟨bw (t_6 _ (List.mem_of_getElem? (i := 116) rfl)) rfl, (bw (t_1 _ (List.mem_of_getElem? (i := 1) rfl)) rfl), by decide +kernel, by decide +kernel, by decide +kernel⟩
theorem mv_X11_count : MLv yX11_count := ⟨(bw (t_6 _ (List.mem_of_getElem? (i := 114) rfl)) rfl), (bw (t_6 _ (List.mem_of_getElem? (i := 115) rfl)) rfl)⟩
theorem ml_X11_death : MLc yX11_death cX11_death 5 (some .int) 3 := ⟨bw (t_4 _ (List.mem_of_getElem? (i := 8) rfl)) rfl, (bw (t_1 _ (List.mem_of_getElem? (i := 1) rfl)) rfl), by decide +kernel, by decide +kernel, by decide +kernel⟩
theorem mv_X11_death : MLv yX11_death := ⟨(bw (t_4 _ (List.mem_of_getElem? (i := 6) rfl)) rfl), (bw (t_4 _ (List.mem_of_getElem? (i := 7) rfl)) rfl)⟩
theorem ml_X11_evenings : MLc yX11_evenings cX11_evenings 2 (some .int) 1 := ⟨bw (t_3 _ (List.mem_of_getElem? (i := 225) rfl)) rfl, (bw (t_1 _ (List.mem_of_getElem? (i := 1) rfl)) rfl), by decide +kernel, by decide +kernel, by decide +kernel⟩
theorem mv_X11_evenings : MLv yX11_evenings := ⟨(bw (t_3 _ (List.mem_of_getElem? (i := 223) rfl)) rfl), (bw (t_3 _ (List.mem_of_getElem? (i := 224) rfl)) rfl)⟩
theorem ml_X11_fact : MLc yX11_fact cX11_fact 8 (some .int) 5 := ⟨bw (t_4 _ (List.mem_of_getElem? (i := 55) rfl)) rfl, (bw (t_1 _ (List.mem_of_getElem? (i := 1) rfl)) rfl), by decide +kernel, by decide +kernel, by decide +kernel⟩
theorem mv_X11_fact : MLv yX11_fact := ⟨(bw (t_4 _ (List.mem_of_getElem? (i := 53) rfl)) rfl), (bw (t_4 _ (List.mem_of_getElem? (i := 54) rfl)) rfl)⟩
theorem ml_X11_fault : MLc yX11_fault cX11_fault 1 (some .int) 0 := ⟨bw (t_3 _ (List.mem_of_getElem? (i := 65) rfl)) rfl, (bw (t_1 _ (List.mem_of_getElem? (i := 1) rfl)) rfl), by decide +kernel, by decide +kernel, by decide +kernel⟩
theorem mv_X11_fault : MLv yX11_fault := ⟨(bw (t_3 _ (List.mem_of_getElem? (i := 63) rfl)) rfl), (bw (t_3 _ (List.mem_of_getElem? (i := 64) rfl)) rfl)⟩
theorem ml_X11_feed : MLc yX11_feed cX11_feed 6 (some .int) 5 := ⟨bw (t_3 _ (List.mem_of_getElem? (i := 57) rfl)) rfl, (bw (t_1 _ (List.mem_of_getElem? (i := 1) rfl)) rfl), by decide +kernel, by decide +kernel, by decide +kernel⟩
theorem mv_X11_feed : MLv yX11_feed := ⟨(bw (t_3 _ (List.mem_of_getElem? (i := 55) rfl)) rfl), (bw (t_3 _ (List.mem_of_getElem? (i := 56) rfl)) rfl)⟩
theorem ml_X11_gets : MLc yX11_gets cX11_gets 8 (some .long) 3 := ⟨bw (t_5 _ (List.mem_of_getElem? (i := 222) rfl)) rfl, (bw (t_1 _ (List.mem_of_getElem? (i := 1) rfl)) rfl), by decide +kernel, by decide +kernel, by decide +kernel⟩
theorem mv_X11_gets : MLv yX11_gets := ⟨(bw (t_5 _ (List.mem_of_getElem? (i := 220) rfl)) rfl), (bw (t_5 _ (List.mem_of_getElem? (i := 221) rfl)) rfl)⟩
theorem ml_X11_has : MLc yX11_has cX11_has 6 (some .int) 4 := ⟨bw (t_5 _ (List.mem_of_getElem? (i := 215) rfl)) rfl, (bw (t_1 _ (List.mem_of_getElem? (i := 1) rfl)) rfl), by decide +kernel, by decide +kernel, by decide +kernel⟩
theorem mv_X11_has : MLv yX11_has := ⟨(bw (t_5 _ (List.mem_of_getElem? (i := 213) rfl)) rfl), (bw (t_5 _ (List.mem_of_getElem? (i := 214) rfl)) rfl)⟩
theorem ml_X11_heir : MLc yX11_heir cX11_heir 6 (some .int) 4 := ⟨bw (t_4 _ (List.mem_of_getElem? (i := 26) rfl)) rfl, (bw (t_1 _ (List.mem_of_getElem? (i := 1) rfl)) rfl), by decide +kernel, by decide +kernel, by decide +kernel⟩
theorem mv_X11_heir : MLv yX11_heir := ⟨(bw (t_4 _ (List.mem_of_getElem? (i := 24) rfl)) rfl), (bw (t_4 _ (List.mem_of_getElem? (i := 25) rfl)) rfl)⟩
theorem ml_X11_hidden : MLc yX11_hidden cX11_hidden 9 (some .int) 4 := ⟨bw (t_6 _ (List.mem_of_getElem? (i := 76) rfl)) rfl, (bw (t_1 _ (List.mem_of_getElem? (i := 1) rfl)) rfl), by decide +kernel, by decide +kernel, by decide +kernel⟩
theorem mv_X11_hidden : MLv yX11_hidden := ⟨(bw (t_6 _ (List.mem_of_getElem? (i := 74) rfl)) rfl), (bw (t_6 _ (List.mem_of_getElem? (i := 75) rfl)) rfl)⟩
theorem ml_X11_init : MLc yX11_init cX11_init 1 none 0 := ⟨bw (t_1 _ (List.mem_of_getElem? (i := 29) rfl)) rfl, (bw (t_1 _ (List.mem_of_getElem? (i := 1) rfl)) rfl), by decide +kernel, by decide +kernel, by decide +kernel⟩
theorem mi_X11_init : Cond.instanceMethod yX11_init ∈ BW ∧ yX11_init.name = "<init>" := ⟨(bw (t_1 _ (List.mem_of_getElem? (i := 28) rfl)) rfl), rfl⟩
theorem ml_X11_isDay : MLc yX11_isDay cX11_isDay 1 (some .boolean) 1 := ⟨bw (t_3 _ (List.mem_of_getElem? (i := 150) rfl)) rfl, (bw (t_1 _ (List.mem_of_getElem? (i := 1) rfl)) rfl), by decide +kernel, by decide +kernel, by decide +kernel⟩
theorem ms_X11_isDay : Cond.static yX11_isDay ∈ BW := (bw (t_3 _ (List.mem_of_getElem? (i := 149) rfl)) rfl)
theorem ml_X11_isWithin : MLc yX11_isWithin cX11_isWithin 3 (some .boolean) 3 := ⟨bw (t_3 _ (List.mem_of_getElem? (i := 80) rfl)) rfl, (bw (t_1 _ (List.mem_of_getElem? (i := 1) rfl)) rfl), by decide +kernel, by decide +kernel, by decide +kernel⟩
theorem ms_X11_isWithin : Cond.static yX11_isWithin ∈ BW := (bw (t_3 _ (List.mem_of_getElem? (i := 79) rfl)) rfl)
theorem ml_X11_joins : MLc yX11_joins cX11_joins 6 (some .int) 3 := ⟨bw (t_3 _ (List.mem_of_getElem? (i := 189) rfl)) rfl, (bw (t_1 _ (List.mem_of_getElem? (i := 1) rfl)) rfl), by decide +kernel, by decide +kernel, by decide +kernel⟩
theorem mv_X11_joins : MLv yX11_joins := ⟨(bw (t_3 _ (List.mem_of_getElem? (i := 187) rfl)) rfl), (bw (t_3 _ (List.mem_of_getElem? (i := 188) rfl)) rfl)⟩
theorem ml_X11_land : MLc yX11_land cX11_land 1 (some .int) 0 := ⟨bw (t_3 _ (List.mem_of_getElem? (i := 53) rfl)) rfl, (bw (t_1 _ (List.mem_of_getElem? (i := 1) rfl)) rfl), by decide +kernel, by decide +kernel, by decide +kernel⟩
theorem mv_X11_land : MLv yX11_land := ⟨(bw (t_3 _ (List.mem_of_getElem? (i := 51) rfl)) rfl), (bw (t_3 _ (List.mem_of_getElem? (i := 52) rfl)) rfl)⟩
theorem ml_X11_law : MLc yX11_law cX11_law 5 (some .int) 3 := ⟨bw (t_4 _ (List.mem_of_getElem? (i := 102) rfl)) rfl, (bw (t_1 _ (List.mem_of_getElem? (i := 1) rfl)) rfl), by decide +kernel, by decide +kernel, by decide +kernel⟩
theorem mv_X11_law : MLv yX11_law := ⟨(bw (t_4 _ (List.mem_of_getElem? (i := 100) rfl)) rfl), (bw (t_4 _ (List.mem_of_getElem? (i := 101) rfl)) rfl)⟩
theorem ml_X11_more : MLc yX11_more cX11_more 2 (some .long) 1 := ⟨bw (t_6 _ (List.mem_of_getElem? (i := 109) rfl)) rfl, (bw (t_1 _ (List.mem_of_getElem? (i := 1) rfl)) rfl), by decide +kernel, by decide +kernel, by decide +kernel⟩
theorem mv_X11_more : MLv yX11_more := ⟨(bw (t_6 _ (List.mem_of_getElem? (i := 107) rfl)) rfl), (bw (t_6 _ (List.mem_of_getElem? (i := 108) rfl)) rfl)⟩
theorem ml_X11_needEvening : MLc yX11_needEvening cX11_needEvening 2 none 1 := ⟨bw (t_5 _ (List.mem_of_getElem? (i := 83) rfl)) rfl, (bw (t_1 _ (List.mem_of_getElem? (i := 1) rfl)) rfl), by decide +kernel, by decide +kernel, by decide +kernel⟩
theorem mv_X11_needEvening : MLv yX11_needEvening := ⟨(bw (t_5 _ (List.mem_of_getElem? (i := 82) rfl)) rfl), (bw (List.mem_append_left tables_1 (List.mem_of_getElem? (l := k2_sels lw_privs) (i := 24) rfl)) rfl)⟩
theorem ml_X11_needLand : MLc yX11_needLand cX11_needLand 2 none 1 := ⟨bw (t_3 _ (List.mem_of_getElem? (i := 77) rfl)) rfl, (bw (t_1 _ (List.mem_of_getElem? (i := 1) rfl)) rfl), by decide +kernel, by decide +kernel, by decide +kernel⟩
theorem mv_X11_needLand : MLv yX11_needLand := ⟨(bw (t_3 _ (List.mem_of_getElem? (i := 76) rfl)) rfl), (bw (List.mem_append_left tables_1 (List.mem_of_getElem? (l := k2_sels lw_privs) (i := 1) rfl)) rfl)⟩
theorem ml_X11_needPerson : MLc yX11_needPerson cX11_needPerson 2 none 1 := ⟨bw (t_3 _ (List.mem_of_getElem? (i := 174) rfl)) rfl, (bw (t_1 _ (List.mem_of_getElem? (i := 1) rfl)) rfl), by decide +kernel, by decide +kernel, by decide +kernel⟩
theorem mv_X11_needPerson : MLv yX11_needPerson := ⟨(bw (t_3 _ (List.mem_of_getElem? (i := 173) rfl)) rfl), (bw (List.mem_append_left tables_1 (List.mem_of_getElem? (l := k2_sels lw_privs) (i := 3) rfl)) rfl)⟩
theorem ml_X11_needSale : MLc yX11_needSale cX11_needSale 2 none 1 := ⟨bw (t_4 _ (List.mem_of_getElem? (i := 86) rfl)) rfl, (bw (t_1 _ (List.mem_of_getElem? (i := 1) rfl)) rfl), by decide +kernel, by decide +kernel, by decide +kernel⟩
theorem mv_X11_needSale : MLv yX11_needSale := ⟨(bw (t_4 _ (List.mem_of_getElem? (i := 85) rfl)) rfl), (bw (List.mem_append_left tables_1 (List.mem_of_getElem? (l := k2_sels lw_privs) (i := 6) rfl)) rfl)⟩
theorem ml_X11_needSociety : MLc yX11_needSociety cX11_needSociety 2 none 1 := ⟨bw (t_4 _ (List.mem_of_getElem? (i := 60) rfl)) rfl, (bw (t_1 _ (List.mem_of_getElem? (i := 1) rfl)) rfl), by decide +kernel, by decide +kernel, by decide +kernel⟩
theorem mv_X11_needSociety : MLv yX11_needSociety := ⟨(bw (t_4 _ (List.mem_of_getElem? (i := 59) rfl)) rfl), (bw (List.mem_append_left tables_1 (List.mem_of_getElem? (l := k2_sels lw_privs) (i := 5) rfl)) rfl)⟩
theorem ml_X11_needWhat : MLc yX11_needWhat cX11_needWhat 3 none 2 := ⟨bw (t_5 _ (List.mem_of_getElem? (i := 78) rfl)) rfl, (bw (t_1 _ (List.mem_of_getElem? (i := 1) rfl)) rfl), by decide +kernel, by decide +kernel, by decide +kernel⟩
theorem mv_X11_needWhat : MLv yX11_needWhat := ⟨(bw (t_5 _ (List.mem_of_getElem? (i := 77) rfl)) rfl), (bw (List.mem_append_left tables_1 (List.mem_of_getElem? (l := k2_sels lw_privs) (i := 23) rfl)) rfl)⟩
theorem ml_X11_needWork : MLc yX11_needWork cX11_needWork 2 none 1 := ⟨bw (t_3 _ (List.mem_of_getElem? (i := 193) rfl)) rfl, (bw (t_1 _ (List.mem_of_getElem? (i := 1) rfl)) rfl), by decide +kernel, by decide +kernel, by decide +kernel⟩
theorem mv_X11_needWork : MLv yX11_needWork := ⟨(bw (t_3 _ (List.mem_of_getElem? (i := 192) rfl)) rfl), (bw (List.mem_append_left tables_1 (List.mem_of_getElem? (l := k2_sels lw_privs) (i := 4) rfl)) rfl)⟩
theorem ml_X11_needYear : MLc yX11_needYear cX11_needYear 2 none 1 := ⟨bw (t_5 _ (List.mem_of_getElem? (i := 226) rfl)) rfl, (bw (t_1 _ (List.mem_of_getElem? (i := 1) rfl)) rfl), by decide +kernel, by decide +kernel, by decide +kernel⟩
theorem mv_X11_needYear : MLv yX11_needYear := ⟨(bw (t_5 _ (List.mem_of_getElem? (i := 225) rfl)) rfl), (bw (List.mem_append_left tables_1 (List.mem_of_getElem? (l := k2_sels lw_privs) (i := 33) rfl)) rfl)⟩
theorem ml_X11_net : MLc yX11_net cX11_net 4 (some .long) 3 := ⟨bw (t_6 _ (List.mem_of_getElem? (i := 27) rfl)) rfl, (bw (t_1 _ (List.mem_of_getElem? (i := 1) rfl)) rfl), by decide +kernel, by decide +kernel, by decide +kernel⟩
theorem mv_X11_net : MLv yX11_net := ⟨(bw (t_6 _ (List.mem_of_getElem? (i := 25) rfl)) rfl), (bw (t_6 _ (List.mem_of_getElem? (i := 26) rfl)) rfl)⟩
theorem ml_X11_owes : MLc yX11_owes cX11_owes 5 (some .long) 4 := ⟨bw (t_5 _ (List.mem_of_getElem? (i := 238) rfl)) rfl, (bw (t_1 _ (List.mem_of_getElem? (i := 1) rfl)) rfl), by decide +kernel, by decide +kernel, by decide +kernel⟩
theorem mv_X11_owes : MLv yX11_owes := ⟨(bw (t_5 _ (List.mem_of_getElem? (i := 236) rfl)) rfl), (bw (t_5 _ (List.mem_of_getElem? (i := 237) rfl)) rfl)⟩
theorem ml_X11_payments : MLc yX11_payments cX11_payments 3 (some .int) 2 := ⟨bw (t_6 _ (List.mem_of_getElem? (i := 39) rfl)) rfl, (bw (t_1 _ (List.mem_of_getElem? (i := 1) rfl)) rfl), by decide +kernel, by decide +kernel, by decide +kernel⟩
theorem mv_X11_payments : MLv yX11_payments := ⟨(bw (t_6 _ (List.mem_of_getElem? (i := 37) rfl)) rfl), (bw (t_6 _ (List.mem_of_getElem? (i := 38) rfl)) rfl)⟩
theorem ml_X11_person : MLc yX11_person cX11_person 3 (some .int) 2 := ⟨bw (t_3 _ (List.mem_of_getElem? (i := 161) rfl)) rfl, (bw (t_1 _ (List.mem_of_getElem? (i := 1) rfl)) rfl), by decide +kernel, by decide +kernel, by decide +kernel⟩
theorem mv_X11_person : MLv yX11_person := ⟨(bw (t_3 _ (List.mem_of_getElem? (i := 159) rfl)) rfl), (bw (t_3 _ (List.mem_of_getElem? (i := 160) rfl)) rfl)⟩
theorem ml_X11_putBytes : MLc yX11_putBytes cX11_putBytes 3 none 1 := ⟨bw (t_3 _ (List.mem_of_getElem? (i := 61) rfl)) rfl, (bw (t_1 _ (List.mem_of_getElem? (i := 1) rfl)) rfl), by decide +kernel, by decide +kernel, by decide +kernel⟩
theorem mv_X11_putBytes : MLv yX11_putBytes := ⟨(bw (t_3 _ (List.mem_of_getElem? (i := 60) rfl)) rfl), (bw (List.mem_append_left tables_1 (List.mem_of_getElem? (l := k2_sels lw_privs) (i := 0) rfl)) rfl)⟩
theorem ml_X11_rate : MLc yX11_rate cX11_rate 4 (some .boolean) 3 := ⟨bw (t_3 _ (List.mem_of_getElem? (i := 73) rfl)) rfl, (bw (t_1 _ (List.mem_of_getElem? (i := 1) rfl)) rfl), by decide +kernel, by decide +kernel, by decide +kernel⟩
theorem mv_X11_rate : MLv yX11_rate := ⟨(bw (t_3 _ (List.mem_of_getElem? (i := 71) rfl)) rfl), (bw (t_3 _ (List.mem_of_getElem? (i := 72) rfl)) rfl)⟩
theorem ml_X11_readTape : MLc yX11_readTape cX11_readTape 6 (some .int) 4 := ⟨bw (t_4 _ (List.mem_of_getElem? (i := 106) rfl)) rfl, (bw (t_1 _ (List.mem_of_getElem? (i := 1) rfl)) rfl), by decide +kernel, by decide +kernel, by decide +kernel⟩
theorem mv_X11_readTape : MLv yX11_readTape := ⟨(bw (t_4 _ (List.mem_of_getElem? (i := 105) rfl)) rfl), (bw (List.mem_append_left tables_1 (List.mem_of_getElem? (l := k2_sels lw_privs) (i := 7) rfl)) rfl)⟩
theorem ml_X11_sale : MLc yX11_sale cX11_sale 10 (some .int) 7 := ⟨bw (t_4 _ (List.mem_of_getElem? (i := 47) rfl)) rfl, (bw (t_1 _ (List.mem_of_getElem? (i := 1) rfl)) rfl), by decide +kernel, by decide +kernel, by decide +kernel⟩
theorem mv_X11_sale : MLv yX11_sale := ⟨(bw (t_4 _ (List.mem_of_getElem? (i := 45) rfl)) rfl), (bw (t_4 _ (List.mem_of_getElem? (i := 46) rfl)) rfl)⟩
theorem ml_X11_society : MLc yX11_society cX11_society 3 (some .int) 2 := ⟨bw (t_3 _ (List.mem_of_getElem? (i := 215) rfl)) rfl, (bw (t_1 _ (List.mem_of_getElem? (i := 1) rfl)) rfl), by decide +kernel, by decide +kernel, by decide +kernel⟩
theorem mv_X11_society : MLv yX11_society := ⟨(bw (t_3 _ (List.mem_of_getElem? (i := 213) rfl)) rfl), (bw (t_3 _ (List.mem_of_getElem? (i := 214) rfl)) rfl)⟩
theorem ml_X11_sold : MLc yX11_sold cX11_sold 5 (some .int) 3 := ⟨bw (t_5 _ (List.mem_of_getElem? (i := 74) rfl)) rfl, (bw (t_1 _ (List.mem_of_getElem? (i := 1) rfl)) rfl), by decide +kernel, by decide +kernel, by decide +kernel⟩
theorem mv_X11_sold : MLv yX11_sold := ⟨(bw (t_5 _ (List.mem_of_getElem? (i := 72) rfl)) rfl), (bw (t_5 _ (List.mem_of_getElem? (i := 73) rfl)) rfl)⟩
theorem ml_X11_tellHidden : MLc yX11_tellHidden cX11_tellHidden 3 (some .int) 3 := ⟨bw (t_6 _ (List.mem_of_getElem? (i := 84) rfl)) rfl, (bw (t_1 _ (List.mem_of_getElem? (i := 1) rfl)) rfl), by decide +kernel, by decide +kernel, by decide +kernel⟩
theorem ms_X11_tellHidden : Cond.static yX11_tellHidden ∈ BW := (bw (t_6 _ (List.mem_of_getElem? (i := 83) rfl)) rfl)
theorem ml_X11_tryDraft : MLc yX11_tryDraft cX11_tryDraft 5 none 0 := ⟨bw (t_6 _ (List.mem_of_getElem? (i := 96) rfl)) rfl, (bw (t_1 _ (List.mem_of_getElem? (i := 1) rfl)) rfl), by decide +kernel, by decide +kernel, by decide +kernel⟩
theorem mv_X11_tryDraft : MLv yX11_tryDraft := ⟨(bw (t_6 _ (List.mem_of_getElem? (i := 95) rfl)) rfl), (bw (List.mem_append_left tables_1 (List.mem_of_getElem? (l := k2_sels lw_privs) (i := 35) rfl)) rfl)⟩
theorem ml_X11_twelfths : MLc yX11_twelfths cX11_twelfths 2 (some .int) 2 := ⟨bw (t_4 _ (List.mem_of_getElem? (i := 39) rfl)) rfl, (bw (t_1 _ (List.mem_of_getElem? (i := 1) rfl)) rfl), by decide +kernel, by decide +kernel, by decide +kernel⟩
theorem ms_X11_twelfths : Cond.static yX11_twelfths ∈ BW := (bw (t_4 _ (List.mem_of_getElem? (i := 38) rfl)) rfl)
theorem ml_X11_with : MLc yX11_with cX11_with 8 (some .int) 3 := ⟨bw (t_6 _ (List.mem_of_getElem? (i := 67) rfl)) rfl, (bw (t_1 _ (List.mem_of_getElem? (i := 1) rfl)) rfl), by decide +kernel, by decide +kernel, by decide +kernel⟩
theorem mv_X11_with : MLv yX11_with := ⟨(bw (t_6 _ (List.mem_of_getElem? (i := 65) rfl)) rfl), (bw (t_6 _ (List.mem_of_getElem? (i := 66) rfl)) rfl)⟩
theorem ml_X11_work : MLc yX11_work cX11_work 9 (some .int) 6 := ⟨bw (t_3 _ (List.mem_of_getElem? (i := 170) rfl)) rfl, (bw (t_1 _ (List.mem_of_getElem? (i := 1) rfl)) rfl), by decide +kernel, by decide +kernel, by decide +kernel⟩
theorem mv_X11_work : MLv yX11_work := ⟨(bw (t_3 _ (List.mem_of_getElem? (i := 168) rfl)) rfl), (bw (t_3 _ (List.mem_of_getElem? (i := 169) rfl)) rfl)⟩
theorem ml_X12_again : MLc yX12_again cX12_again 8 (some .int) 4 := ⟨bw (t_9 _ (List.mem_of_getElem? (i := 15) rfl)) rfl, (bw (t_1 _ (List.mem_of_getElem? (i := 13) rfl)) rfl), by decide +kernel, by decide +kernel, by decide +kernel⟩
theorem mv_X12_again : MLv yX12_again := ⟨(bw (t_9 _ (List.mem_of_getElem? (i := 13) rfl)) rfl), (bw (t_9 _ (List.mem_of_getElem? (i := 14) rfl)) rfl)⟩
theorem ml_X12_attempt : MLc yX12_attempt cX12_attempt 6 (some .int) 3 := ⟨bw (t_9 _ (List.mem_of_getElem? (i := 38) rfl)) rfl, (bw (t_1 _ (List.mem_of_getElem? (i := 13) rfl)) rfl), by decide +kernel, by decide +kernel, by decide +kernel⟩
theorem mv_X12_attempt : MLv yX12_attempt := ⟨(bw (t_9 _ (List.mem_of_getElem? (i := 36) rfl)) rfl), (bw (t_9 _ (List.mem_of_getElem? (i := 37) rfl)) rfl)⟩
theorem ml_X12_back : MLc yX12_back cX12_back 3 (some .boolean) 2 := ⟨bw (t_8 _ (List.mem_of_getElem? (i := 38) rfl)) rfl, (bw (t_1 _ (List.mem_of_getElem? (i := 13) rfl)) rfl), by decide +kernel, by decide +kernel, by decide +kernel⟩
theorem mv_X12_back : MLv yX12_back := ⟨(bw (t_8 _ (List.mem_of_getElem? (i := 36) rfl)) rfl), (bw (t_8 _ (List.mem_of_getElem? (i := 37) rfl)) rfl)⟩
theorem ml_X12_begins : MLc yX12_begins cX12_begins 1 none 0 := ⟨bw (t_8 _ (List.mem_of_getElem? (i := 106) rfl)) rfl, (bw (t_1 _ (List.mem_of_getElem? (i := 13) rfl)) rfl), by decide +kernel, by decide +kernel, by decide +kernel⟩
theorem mv_X12_begins : MLv yX12_begins := ⟨(bw (t_8 _ (List.mem_of_getElem? (i := 105) rfl)) rfl), (bw (List.mem_append_left tables_1 (List.mem_of_getElem? (l := k2_sels lw_privs) (i := 55) rfl)) rfl)⟩
theorem ml_X12_behind : MLc yX12_behind cX12_behind 2 (some .int) 1 := ⟨bw (t_9 _ (List.mem_of_getElem? (i := 30) rfl)) rfl, (bw (t_1 _ (List.mem_of_getElem? (i := 13) rfl)) rfl), by decide +kernel, by decide +kernel, by decide +kernel⟩
theorem mv_X12_behind : MLv yX12_behind := ⟨(bw (t_9 _ (List.mem_of_getElem? (i := 29) rfl)) rfl), (bw (List.mem_append_left tables_1 (List.mem_of_getElem? (l := k2_sels lw_privs) (i := 84) rfl)) rfl)⟩
theorem ml_X12_byteAt : MLc yX12_byteAt cX12_byteAt 2 (some .int) 1 := ⟨bw (t_8 _ (List.mem_of_getElem? (i := 70) rfl)) rfl, (bw (t_1 _ (List.mem_of_getElem? (i := 13) rfl)) rfl), by decide +kernel, by decide +kernel, by decide +kernel⟩
theorem mv_X12_byteAt : MLv yX12_byteAt := ⟨(bw (t_8 _ (List.mem_of_getElem? (i := 69) rfl)) rfl), (bw (List.mem_append_left tables_1 (List.mem_of_getElem? (l := k2_sels lw_privs) (i := 49) rfl)) rfl)⟩
theorem ml_X12_claim : MLc yX12_claim cX12_claim 5 (some .boolean) 2 := ⟨bw (t_8 _ (List.mem_of_getElem? (i := 42) rfl)) rfl, (bw (t_1 _ (List.mem_of_getElem? (i := 13) rfl)) rfl), by decide +kernel, by decide +kernel, by decide +kernel⟩
theorem mv_X12_claim : MLv yX12_claim := ⟨(bw (t_8 _ (List.mem_of_getElem? (i := 40) rfl)) rfl), (bw (t_8 _ (List.mem_of_getElem? (i := 41) rfl)) rfl)⟩
theorem ml_X12_clause : MLc yX12_clause cX12_clause 3 none 1 := ⟨bw (t_8 _ (List.mem_of_getElem? (i := 84) rfl)) rfl, (bw (t_1 _ (List.mem_of_getElem? (i := 13) rfl)) rfl), by decide +kernel, by decide +kernel, by decide +kernel⟩
theorem mv_X12_clause : MLv yX12_clause := ⟨(bw (t_8 _ (List.mem_of_getElem? (i := 83) rfl)) rfl), (bw (List.mem_append_left tables_1 (List.mem_of_getElem? (l := k2_sels lw_privs) (i := 51) rfl)) rfl)⟩
theorem ml_X12_clears : MLc yX12_clears cX12_clears 5 none 2 := ⟨bw (t_8 _ (List.mem_of_getElem? (i := 235) rfl)) rfl, (bw (t_1 _ (List.mem_of_getElem? (i := 13) rfl)) rfl), by decide +kernel, by decide +kernel, by decide +kernel⟩
theorem mv_X12_clears : MLv yX12_clears := ⟨(bw (t_8 _ (List.mem_of_getElem? (i := 234) rfl)) rfl), (bw (List.mem_append_left tables_1 (List.mem_of_getElem? (l := k2_sels lw_privs) (i := 80) rfl)) rfl)⟩
theorem ml_X12_count : MLc yX12_count cX12_count 2 (some .int) 1 := ⟨bw (t_9 _ (List.mem_of_getElem? (i := 46) rfl)) rfl, (bw (t_1 _ (List.mem_of_getElem? (i := 13) rfl)) rfl), by decide +kernel, by decide +kernel, by decide +kernel⟩
theorem mv_X12_count : MLv yX12_count := ⟨(bw (t_9 _ (List.mem_of_getElem? (i := 44) rfl)) rfl), (bw (t_9 _ (List.mem_of_getElem? (i := 45) rfl)) rfl)⟩
theorem ml_X12_death : MLc yX12_death cX12_death 5 (some .int) 3 := ⟨bw (t_8 _ (List.mem_of_getElem? (i := 9) rfl)) rfl, (bw (t_1 _ (List.mem_of_getElem? (i := 13) rfl)) rfl), by decide +kernel, by decide +kernel, by decide +kernel⟩
theorem mv_X12_death : MLv yX12_death := ⟨(bw (t_8 _ (List.mem_of_getElem? (i := 7) rfl)) rfl), (bw (t_8 _ (List.mem_of_getElem? (i := 8) rfl)) rfl)⟩
theorem ml_X12_drops : MLc yX12_drops cX12_drops 2 none 1 := ⟨bw (t_8 _ (List.mem_of_getElem? (i := 130) rfl)) rfl, (bw (t_1 _ (List.mem_of_getElem? (i := 13) rfl)) rfl), by decide +kernel, by decide +kernel, by decide +kernel⟩
theorem mv_X12_drops : MLv yX12_drops := ⟨(bw (t_8 _ (List.mem_of_getElem? (i := 129) rfl)) rfl), (bw (List.mem_append_left tables_1 (List.mem_of_getElem? (l := k2_sels lw_privs) (i := 61) rfl)) rfl)⟩
theorem ml_X12_evenings : MLc yX12_evenings cX12_evenings 2 (some .int) 1 := ⟨bw (t_8 _ (List.mem_of_getElem? (i := 5) rfl)) rfl, (bw (t_1 _ (List.mem_of_getElem? (i := 13) rfl)) rfl), by decide +kernel, by decide +kernel, by decide +kernel⟩
theorem mv_X12_evenings : MLv yX12_evenings := ⟨(bw (t_8 _ (List.mem_of_getElem? (i := 3) rfl)) rfl), (bw (t_8 _ (List.mem_of_getElem? (i := 4) rfl)) rfl)⟩
theorem ml_X12_expression : MLc yX12_expression cX12_expression 4 (some .int) 0 := ⟨bw (t_8 _ (List.mem_of_getElem? (i := 102) rfl)) rfl, (bw (t_1 _ (List.mem_of_getElem? (i := 13) rfl)) rfl), by decide +kernel, by decide +kernel, by decide +kernel⟩
theorem mv_X12_expression : MLv yX12_expression := ⟨(bw (t_8 _ (List.mem_of_getElem? (i := 101) rfl)) rfl), (bw (List.mem_append_left tables_1 (List.mem_of_getElem? (l := k2_sels lw_privs) (i := 54) rfl)) rfl)⟩
theorem ml_X12_fact : MLc yX12_fact cX12_fact 7 (some .int) 5 := ⟨bw (t_8 _ (List.mem_of_getElem? (i := 30) rfl)) rfl, (bw (t_1 _ (List.mem_of_getElem? (i := 13) rfl)) rfl), by decide +kernel, by decide +kernel, by decide +kernel⟩
theorem mv_X12_fact : MLv yX12_fact := ⟨(bw (t_8 _ (List.mem_of_getElem? (i := 28) rfl)) rfl), (bw (t_8 _ (List.mem_of_getElem? (i := 29) rfl)) rfl)⟩
theorem ml_X12_fault : MLc yX12_fault cX12_fault 1 (some .int) 0 := ⟨bw (t_8 _ (List.mem_of_getElem? (i := 146) rfl)) rfl, (bw (t_1 _ (List.mem_of_getElem? (i := 13) rfl)) rfl), by decide +kernel, by decide +kernel, by decide +kernel⟩
theorem mv_X12_fault : MLv yX12_fault := ⟨(bw (t_8 _ (List.mem_of_getElem? (i := 144) rfl)) rfl), (bw (t_8 _ (List.mem_of_getElem? (i := 145) rfl)) rfl)⟩
theorem ml_X12_feed : MLc yX12_feed cX12_feed 6 (some .int) 5 := ⟨bw (t_8 _ (List.mem_of_getElem? (i := 50) rfl)) rfl, (bw (t_1 _ (List.mem_of_getElem? (i := 13) rfl)) rfl), by decide +kernel, by decide +kernel, by decide +kernel⟩
theorem mv_X12_feed : MLv yX12_feed := ⟨(bw (t_8 _ (List.mem_of_getElem? (i := 48) rfl)) rfl), (bw (t_8 _ (List.mem_of_getElem? (i := 49) rfl)) rfl)⟩
theorem ml_X12_gathers : MLc yX12_gathers cX12_gathers 5 none 1 := ⟨bw (t_8 _ (List.mem_of_getElem? (i := 158) rfl)) rfl, (bw (t_1 _ (List.mem_of_getElem? (i := 13) rfl)) rfl), by decide +kernel, by decide +kernel, by decide +kernel⟩
theorem mv_X12_gathers : MLv yX12_gathers := ⟨(bw (t_8 _ (List.mem_of_getElem? (i := 157) rfl)) rfl), (bw (List.mem_append_left tables_1 (List.mem_of_getElem? (l := k2_sels lw_privs) (i := 65) rfl)) rfl)⟩
theorem ml_X12_gets : MLc yX12_gets cX12_gets 7 (some .long) 3 := ⟨bw (t_8 _ (List.mem_of_getElem? (i := 219) rfl)) rfl, (bw (t_1 _ (List.mem_of_getElem? (i := 13) rfl)) rfl), by decide +kernel, by decide +kernel, by decide +kernel⟩
theorem mv_X12_gets : MLv yX12_gets := ⟨(bw (t_8 _ (List.mem_of_getElem? (i := 217) rfl)) rfl), (bw (t_8 _ (List.mem_of_getElem? (i := 218) rfl)) rfl)⟩
theorem ml_X12_goes : MLc yX12_goes cX12_goes 2 none 0 := ⟨bw (t_8 _ (List.mem_of_getElem? (i := 66) rfl)) rfl, (bw (t_1 _ (List.mem_of_getElem? (i := 13) rfl)) rfl), by decide +kernel, by decide +kernel, by decide +kernel⟩
theorem mv_X12_goes : MLv yX12_goes := ⟨(bw (t_8 _ (List.mem_of_getElem? (i := 65) rfl)) rfl), (bw (List.mem_append_left tables_1 (List.mem_of_getElem? (l := k2_sels lw_privs) (i := 48) rfl)) rfl)⟩
theorem ml_X12_handles : MLc yX12_handles cX12_handles 5 none 2 := ⟨bw (t_9 _ (List.mem_of_getElem? (i := 26) rfl)) rfl, (bw (t_1 _ (List.mem_of_getElem? (i := 13) rfl)) rfl), by decide +kernel, by decide +kernel, by decide +kernel⟩
theorem mv_X12_handles : MLv yX12_handles := ⟨(bw (t_9 _ (List.mem_of_getElem? (i := 25) rfl)) rfl), (bw (List.mem_append_left tables_1 (List.mem_of_getElem? (l := k2_sels lw_privs) (i := 83) rfl)) rfl)⟩
theorem ml_X12_has : MLc yX12_has cX12_has 5 (some .int) 4 := ⟨bw (t_8 _ (List.mem_of_getElem? (i := 215) rfl)) rfl, (bw (t_1 _ (List.mem_of_getElem? (i := 13) rfl)) rfl), by decide +kernel, by decide +kernel, by decide +kernel⟩
theorem mv_X12_has : MLv yX12_has := ⟨(bw (t_8 _ (List.mem_of_getElem? (i := 213) rfl)) rfl), (bw (t_8 _ (List.mem_of_getElem? (i := 214) rfl)) rfl)⟩
theorem ml_X12_heir : MLc yX12_heir cX12_heir 7 (some .int) 4 := ⟨bw (t_8 _ (List.mem_of_getElem? (i := 17) rfl)) rfl, (bw (t_1 _ (List.mem_of_getElem? (i := 13) rfl)) rfl), by decide +kernel, by decide +kernel, by decide +kernel⟩
theorem mv_X12_heir : MLv yX12_heir := ⟨(bw (t_8 _ (List.mem_of_getElem? (i := 15) rfl)) rfl), (bw (t_8 _ (List.mem_of_getElem? (i := 16) rfl)) rfl)⟩
theorem ml_X12_hidden : MLc yX12_hidden cX12_hidden 8 (some .int) 4 := ⟨bw (t_9 _ (List.mem_of_getElem? (i := 34) rfl)) rfl, (bw (t_1 _ (List.mem_of_getElem? (i := 13) rfl)) rfl), by decide +kernel, by decide +kernel, by decide +kernel⟩
theorem mv_X12_hidden : MLv yX12_hidden := ⟨(bw (t_9 _ (List.mem_of_getElem? (i := 32) rfl)) rfl), (bw (t_9 _ (List.mem_of_getElem? (i := 33) rfl)) rfl)⟩
theorem ml_X12_init : MLc yX12_init cX12_init 1 none 0 := ⟨bw (t_6 _ (List.mem_of_getElem? (i := 121) rfl)) rfl, (bw (t_1 _ (List.mem_of_getElem? (i := 13) rfl)) rfl), by decide +kernel, by decide +kernel, by decide +kernel⟩
theorem mi_X12_init : Cond.instanceMethod yX12_init ∈ BW ∧ yX12_init.name = "<init>" := ⟨(bw (t_6 _ (List.mem_of_getElem? (i := 120) rfl)) rfl), rfl⟩
theorem ml_X12_isBy : MLc yX12_isBy cX12_isBy 5 (some .boolean) 2 := ⟨bw (t_7 _ (List.mem_of_getElem? (i := 237) rfl)) rfl, (bw (t_1 _ (List.mem_of_getElem? (i := 13) rfl)) rfl), by decide +kernel, by decide +kernel, by decide +kernel⟩
theorem mv_X12_isBy : MLv yX12_isBy := ⟨(bw (t_7 _ (List.mem_of_getElem? (i := 236) rfl)) rfl), (bw (List.mem_append_left tables_1 (List.mem_of_getElem? (l := k2_sels lw_privs) (i := 41) rfl)) rfl)⟩
theorem ml_X12_isCounting : MLc yX12_isCounting cX12_isCounting 4 (some .boolean) 1 := ⟨bw (t_8 _ (List.mem_of_getElem? (i := 179) rfl)) rfl, (bw (t_1 _ (List.mem_of_getElem? (i := 13) rfl)) rfl), by decide +kernel, by decide +kernel, by decide +kernel⟩
theorem mv_X12_isCounting : MLv yX12_isCounting := ⟨(bw (t_8 _ (List.mem_of_getElem? (i := 178) rfl)) rfl), (bw (List.mem_append_left tables_1 (List.mem_of_getElem? (l := k2_sels lw_privs) (i := 70) rfl)) rfl)⟩
theorem ml_X12_isDay : MLc yX12_isDay cX12_isDay 1 (some .boolean) 1 := ⟨bw (t_7 _ (List.mem_of_getElem? (i := 210) rfl)) rfl, (bw (t_1 _ (List.mem_of_getElem? (i := 13) rfl)) rfl), by decide +kernel, by decide +kernel, by decide +kernel⟩
theorem ms_X12_isDay : Cond.static yX12_isDay ∈ BW := (bw (t_7 _ (List.mem_of_getElem? (i := 209) rfl)) rfl)
theorem ml_X12_isDead : MLc yX12_isDead cX12_isDead 3 (some .boolean) 2 := ⟨bw (t_8 _ (List.mem_of_getElem? (i := 207) rfl)) rfl, (bw (t_1 _ (List.mem_of_getElem? (i := 13) rfl)) rfl), by decide +kernel, by decide +kernel, by decide +kernel⟩
theorem mv_X12_isDead : MLv yX12_isDead := ⟨(bw (t_8 _ (List.mem_of_getElem? (i := 206) rfl)) rfl), (bw (List.mem_append_left tables_1 (List.mem_of_getElem? (l := k2_sels lw_privs) (i := 76) rfl)) rfl)⟩
theorem ml_X12_isDigit : MLc yX12_isDigit cX12_isDigit 1 (some .boolean) 1 := ⟨bw (t_8 _ (List.mem_of_getElem? (i := 76) rfl)) rfl, (bw (t_1 _ (List.mem_of_getElem? (i := 13) rfl)) rfl), by decide +kernel, by decide +kernel, by decide +kernel⟩
theorem ms_X12_isDigit : Cond.static yX12_isDigit ∈ BW := (bw (t_8 _ (List.mem_of_getElem? (i := 75) rfl)) rfl)
theorem ml_X12_isEvening : MLc yX12_isEvening cX12_isEvening 2 (some .boolean) 1 := ⟨bw (t_8 _ (List.mem_of_getElem? (i := 154) rfl)) rfl, (bw (t_1 _ (List.mem_of_getElem? (i := 13) rfl)) rfl), by decide +kernel, by decide +kernel, by decide +kernel⟩
theorem mv_X12_isEvening : MLv yX12_isEvening := ⟨(bw (t_8 _ (List.mem_of_getElem? (i := 153) rfl)) rfl), (bw (List.mem_append_left tables_1 (List.mem_of_getElem? (l := k2_sels lw_privs) (i := 64) rfl)) rfl)⟩
theorem ml_X12_isGood : MLc yX12_isGood cX12_isGood 1 (some .boolean) 0 := ⟨bw (t_8 _ (List.mem_of_getElem? (i := 80) rfl)) rfl, (bw (t_1 _ (List.mem_of_getElem? (i := 13) rfl)) rfl), by decide +kernel, by decide +kernel, by decide +kernel⟩
theorem mv_X12_isGood : MLv yX12_isGood := ⟨(bw (t_8 _ (List.mem_of_getElem? (i := 79) rfl)) rfl), (bw (List.mem_append_left tables_1 (List.mem_of_getElem? (l := k2_sels lw_privs) (i := 50) rfl)) rfl)⟩
theorem ml_X12_isKnown : MLc yX12_isKnown cX12_isKnown 3 (some .boolean) 2 := ⟨bw (t_8 _ (List.mem_of_getElem? (i := 21) rfl)) rfl, (bw (t_1 _ (List.mem_of_getElem? (i := 13) rfl)) rfl), by decide +kernel, by decide +kernel, by decide +kernel⟩
theorem mv_X12_isKnown : MLv yX12_isKnown := ⟨(bw (t_8 _ (List.mem_of_getElem? (i := 20) rfl)) rfl), (bw (List.mem_append_left tables_1 (List.mem_of_getElem? (l := k2_sels lw_privs) (i := 43) rfl)) rfl)⟩
theorem ml_X12_isLand : MLc yX12_isLand cX12_isLand 2 (some .boolean) 1 := ⟨bw (t_7 _ (List.mem_of_getElem? (i := 203) rfl)) rfl, (bw (t_1 _ (List.mem_of_getElem? (i := 13) rfl)) rfl), by decide +kernel, by decide +kernel, by decide +kernel⟩
theorem mv_X12_isLand : MLv yX12_isLand := ⟨(bw (t_7 _ (List.mem_of_getElem? (i := 202) rfl)) rfl), (bw (List.mem_append_left tables_1 (List.mem_of_getElem? (l := k2_sels lw_privs) (i := 37) rfl)) rfl)⟩
theorem ml_X12_isLetter : MLc yX12_isLetter cX12_isLetter 1 (some .boolean) 1 := ⟨bw (t_8 _ (List.mem_of_getElem? (i := 73) rfl)) rfl, (bw (t_1 _ (List.mem_of_getElem? (i := 13) rfl)) rfl), by decide +kernel, by decide +kernel, by decide +kernel⟩
theorem ms_X12_isLetter : Cond.static yX12_isLetter ∈ BW := (bw (t_8 _ (List.mem_of_getElem? (i := 72) rfl)) rfl)
theorem ml_X12_isNear : MLc yX12_isNear cX12_isNear 5 (some .boolean) 3 := ⟨bw (t_9 _ (List.mem_of_getElem? (i := 18) rfl)) rfl, (bw (t_1 _ (List.mem_of_getElem? (i := 13) rfl)) rfl), by decide +kernel, by decide +kernel, by decide +kernel⟩
theorem ms_X12_isNear : Cond.static yX12_isNear ∈ BW := (bw (t_9 _ (List.mem_of_getElem? (i := 17) rfl)) rfl)
theorem ml_X12_isNothing : MLc yX12_isNothing cX12_isNothing 5 (some .boolean) 1 := ⟨bw (t_9 _ (List.mem_of_getElem? (i := 11) rfl)) rfl, (bw (t_1 _ (List.mem_of_getElem? (i := 13) rfl)) rfl), by decide +kernel, by decide +kernel, by decide +kernel⟩
theorem mv_X12_isNothing : MLv yX12_isNothing := ⟨(bw (t_9 _ (List.mem_of_getElem? (i := 10) rfl)) rfl), (bw (List.mem_append_left tables_1 (List.mem_of_getElem? (l := k2_sels lw_privs) (i := 82) rfl)) rfl)⟩
theorem ml_X12_isOf : MLc yX12_isOf cX12_isOf 4 (some .boolean) 3 := ⟨bw (t_8 _ (List.mem_of_getElem? (i := 227) rfl)) rfl, (bw (t_1 _ (List.mem_of_getElem? (i := 13) rfl)) rfl), by decide +kernel, by decide +kernel, by decide +kernel⟩
theorem mv_X12_isOf : MLv yX12_isOf := ⟨(bw (t_8 _ (List.mem_of_getElem? (i := 226) rfl)) rfl), (bw (List.mem_append_left tables_1 (List.mem_of_getElem? (l := k2_sels lw_privs) (i := 79) rfl)) rfl)⟩
theorem ml_X12_isPerson : MLc yX12_isPerson cX12_isPerson 2 (some .boolean) 1 := ⟨bw (t_7 _ (List.mem_of_getElem? (i := 224) rfl)) rfl, (bw (t_1 _ (List.mem_of_getElem? (i := 13) rfl)) rfl), by decide +kernel, by decide +kernel, by decide +kernel⟩
theorem mv_X12_isPerson : MLv yX12_isPerson := ⟨(bw (t_7 _ (List.mem_of_getElem? (i := 223) rfl)) rfl), (bw (List.mem_append_left tables_1 (List.mem_of_getElem? (l := k2_sels lw_privs) (i := 39) rfl)) rfl)⟩
theorem ml_X12_isSale : MLc yX12_isSale cX12_isSale 2 (some .boolean) 1 := ⟨bw (t_8 _ (List.mem_of_getElem? (i := 46) rfl)) rfl, (bw (t_1 _ (List.mem_of_getElem? (i := 13) rfl)) rfl), by decide +kernel, by decide +kernel, by decide +kernel⟩
theorem mv_X12_isSale : MLv yX12_isSale := ⟨(bw (t_8 _ (List.mem_of_getElem? (i := 45) rfl)) rfl), (bw (List.mem_append_left tables_1 (List.mem_of_getElem? (l := k2_sels lw_privs) (i := 45) rfl)) rfl)⟩
theorem ml_X12_isSign : MLc yX12_isSign cX12_isSign 2 (some .boolean) 1 := ⟨bw (t_8 _ (List.mem_of_getElem? (i := 110) rfl)) rfl, (bw (t_1 _ (List.mem_of_getElem? (i := 13) rfl)) rfl), by decide +kernel, by decide +kernel, by decide +kernel⟩
theorem mv_X12_isSign : MLv yX12_isSign := ⟨(bw (t_8 _ (List.mem_of_getElem? (i := 109) rfl)) rfl), (bw (List.mem_append_left tables_1 (List.mem_of_getElem? (l := k2_sels lw_privs) (i := 56) rfl)) rfl)⟩
theorem ml_X12_isSociety : MLc yX12_isSociety cX12_isSociety 2 (some .boolean) 1 := ⟨bw (t_8 _ (List.mem_of_getElem? (i := 34) rfl)) rfl, (bw (t_1 _ (List.mem_of_getElem? (i := 13) rfl)) rfl), by decide +kernel, by decide +kernel, by decide +kernel⟩
theorem mv_X12_isSociety : MLv yX12_isSociety := ⟨(bw (t_8 _ (List.mem_of_getElem? (i := 33) rfl)) rfl), (bw (List.mem_append_left tables_1 (List.mem_of_getElem? (l := k2_sels lw_privs) (i := 44) rfl)) rfl)⟩
theorem ml_X12_isWork : MLc yX12_isWork cX12_isWork 2 (some .boolean) 1 := ⟨bw (t_7 _ (List.mem_of_getElem? (i := 233) rfl)) rfl, (bw (t_1 _ (List.mem_of_getElem? (i := 13) rfl)) rfl), by decide +kernel, by decide +kernel, by decide +kernel⟩
theorem mv_X12_isWork : MLv yX12_isWork := ⟨(bw (t_7 _ (List.mem_of_getElem? (i := 232) rfl)) rfl), (bw (List.mem_append_left tables_1 (List.mem_of_getElem? (l := k2_sels lw_privs) (i := 40) rfl)) rfl)⟩
theorem ml_X12_isYear : MLc yX12_isYear cX12_isYear 2 (some .boolean) 1 := ⟨bw (t_8 _ (List.mem_of_getElem? (i := 223) rfl)) rfl, (bw (t_1 _ (List.mem_of_getElem? (i := 13) rfl)) rfl), by decide +kernel, by decide +kernel, by decide +kernel⟩
theorem mv_X12_isYear : MLv yX12_isYear := ⟨(bw (t_8 _ (List.mem_of_getElem? (i := 222) rfl)) rfl), (bw (List.mem_append_left tables_1 (List.mem_of_getElem? (l := k2_sels lw_privs) (i := 78) rfl)) rfl)⟩
theorem ml_X12_joins : MLc yX12_joins cX12_joins 4 (some .int) 3 := ⟨bw (t_7 _ (List.mem_of_getElem? (i := 229) rfl)) rfl, (bw (t_1 _ (List.mem_of_getElem? (i := 13) rfl)) rfl), by decide +kernel, by decide +kernel, by decide +kernel⟩
theorem mv_X12_joins : MLv yX12_joins := ⟨(bw (t_7 _ (List.mem_of_getElem? (i := 227) rfl)) rfl), (bw (t_7 _ (List.mem_of_getElem? (i := 228) rfl)) rfl)⟩
theorem ml_X12_known : MLc yX12_known cX12_known 1 (some .long) 1 := ⟨bw (t_8 _ (List.mem_of_getElem? (i := 91) rfl)) rfl, (bw (t_1 _ (List.mem_of_getElem? (i := 13) rfl)) rfl), by decide +kernel, by decide +kernel, by decide +kernel⟩
theorem ms_X12_known : Cond.static yX12_known ∈ BW := (bw (t_8 _ (List.mem_of_getElem? (i := 90) rfl)) rfl)
theorem ml_X12_knownWord : MLc yX12_knownWord cX12_knownWord 2 (some .int) 0 := ⟨bw (t_8 _ (List.mem_of_getElem? (i := 88) rfl)) rfl, (bw (t_1 _ (List.mem_of_getElem? (i := 13) rfl)) rfl), by decide +kernel, by decide +kernel, by decide +kernel⟩
theorem mv_X12_knownWord : MLv yX12_knownWord := ⟨(bw (t_8 _ (List.mem_of_getElem? (i := 87) rfl)) rfl), (bw (List.mem_append_left tables_1 (List.mem_of_getElem? (l := k2_sels lw_privs) (i := 52) rfl)) rfl)⟩
theorem ml_X12_land : MLc yX12_land cX12_land 1 (some .int) 0 := ⟨bw (t_7 _ (List.mem_of_getElem? (i := 195) rfl)) rfl, (bw (t_1 _ (List.mem_of_getElem? (i := 13) rfl)) rfl), by decide +kernel, by decide +kernel, by decide +kernel⟩
theorem mv_X12_land : MLv yX12_land := ⟨(bw (t_7 _ (List.mem_of_getElem? (i := 193) rfl)) rfl), (bw (t_7 _ (List.mem_of_getElem? (i := 194) rfl)) rfl)⟩
theorem ml_X12_law : MLc yX12_law cX12_law 4 (some .int) 3 := ⟨bw (t_8 _ (List.mem_of_getElem? (i := 58) rfl)) rfl, (bw (t_1 _ (List.mem_of_getElem? (i := 13) rfl)) rfl), by decide +kernel, by decide +kernel, by decide +kernel⟩
theorem mv_X12_law : MLv yX12_law := ⟨(bw (t_8 _ (List.mem_of_getElem? (i := 56) rfl)) rfl), (bw (t_8 _ (List.mem_of_getElem? (i := 57) rfl)) rfl)⟩
theorem ml_X12_lawOf : MLc yX12_lawOf cX12_lawOf 6 (some .int) 2 := ⟨bw (t_8 _ (List.mem_of_getElem? (i := 171) rfl)) rfl, (bw (t_1 _ (List.mem_of_getElem? (i := 13) rfl)) rfl), by decide +kernel, by decide +kernel, by decide +kernel⟩
theorem mv_X12_lawOf : MLv yX12_lawOf := ⟨(bw (t_8 _ (List.mem_of_getElem? (i := 170) rfl)) rfl), (bw (List.mem_append_left tables_1 (List.mem_of_getElem? (l := k2_sels lw_privs) (i := 68) rfl)) rfl)⟩
theorem ml_X12_lays : MLc yX12_lays cX12_lays 3 none 1 := ⟨bw (t_8 _ (List.mem_of_getElem? (i := 54) rfl)) rfl, (bw (t_1 _ (List.mem_of_getElem? (i := 13) rfl)) rfl), by decide +kernel, by decide +kernel, by decide +kernel⟩
theorem mv_X12_lays : MLv yX12_lays := ⟨(bw (t_8 _ (List.mem_of_getElem? (i := 53) rfl)) rfl), (bw (List.mem_append_left tables_1 (List.mem_of_getElem? (l := k2_sels lw_privs) (i := 46) rfl)) rfl)⟩
theorem ml_X12_looksBack : MLc yX12_looksBack cX12_looksBack 5 none 1 := ⟨bw (t_8 _ (List.mem_of_getElem? (i := 175) rfl)) rfl, (bw (t_1 _ (List.mem_of_getElem? (i := 13) rfl)) rfl), by decide +kernel, by decide +kernel, by decide +kernel⟩
theorem mv_X12_looksBack : MLv yX12_looksBack := ⟨(bw (t_8 _ (List.mem_of_getElem? (i := 174) rfl)) rfl), (bw (List.mem_append_left tables_1 (List.mem_of_getElem? (l := k2_sels lw_privs) (i := 69) rfl)) rfl)⟩
theorem ml_X12_more : MLc yX12_more cX12_more 2 (some .long) 1 := ⟨bw (t_9 _ (List.mem_of_getElem? (i := 42) rfl)) rfl, (bw (t_1 _ (List.mem_of_getElem? (i := 13) rfl)) rfl), by decide +kernel, by decide +kernel, by decide +kernel⟩
theorem mv_X12_more : MLv yX12_more := ⟨(bw (t_9 _ (List.mem_of_getElem? (i := 40) rfl)) rfl), (bw (t_9 _ (List.mem_of_getElem? (i := 41) rfl)) rfl)⟩
theorem ml_X12_net : MLc yX12_net cX12_net 4 (some .long) 3 := ⟨bw (t_8 _ (List.mem_of_getElem? (i := 239) rfl)) rfl, (bw (t_1 _ (List.mem_of_getElem? (i := 13) rfl)) rfl), by decide +kernel, by decide +kernel, by decide +kernel⟩
theorem mv_X12_net : MLv yX12_net := ⟨(bw (t_8 _ (List.mem_of_getElem? (i := 237) rfl)) rfl), (bw (t_8 _ (List.mem_of_getElem? (i := 238) rfl)) rfl)⟩
theorem ml_X12_netOf : MLc yX12_netOf cX12_netOf 5 (some .long) 1 := ⟨bw (t_9 _ (List.mem_of_getElem? (i := 3) rfl)) rfl, (bw (t_1 _ (List.mem_of_getElem? (i := 13) rfl)) rfl), by decide +kernel, by decide +kernel, by decide +kernel⟩
theorem mv_X12_netOf : MLv yX12_netOf := ⟨(bw (t_9 _ (List.mem_of_getElem? (i := 2) rfl)) rfl), (bw (List.mem_append_left tables_1 (List.mem_of_getElem? (l := k2_sels lw_privs) (i := 81) rfl)) rfl)⟩
theorem ml_X12_number : MLc yX12_number cX12_number 5 (some .int) 3 := ⟨bw (t_8 _ (List.mem_of_getElem? (i := 142) rfl)) rfl, (bw (t_1 _ (List.mem_of_getElem? (i := 13) rfl)) rfl), by decide +kernel, by decide +kernel, by decide +kernel⟩
theorem mv_X12_number : MLv yX12_number := ⟨(bw (t_8 _ (List.mem_of_getElem? (i := 141) rfl)) rfl), (bw (List.mem_append_left tables_1 (List.mem_of_getElem? (l := k2_sels lw_privs) (i := 63) rfl)) rfl)⟩
theorem ml_X12_operand : MLc yX12_operand cX12_operand 5 none 1 := ⟨bw (t_8 _ (List.mem_of_getElem? (i := 114) rfl)) rfl, (bw (t_1 _ (List.mem_of_getElem? (i := 13) rfl)) rfl), by decide +kernel, by decide +kernel, by decide +kernel⟩
theorem mv_X12_operand : MLv yX12_operand := ⟨(bw (t_8 _ (List.mem_of_getElem? (i := 113) rfl)) rfl), (bw (List.mem_append_left tables_1 (List.mem_of_getElem? (l := k2_sels lw_privs) (i := 57) rfl)) rfl)⟩
theorem ml_X12_owes : MLc yX12_owes cX12_owes 5 (some .long) 4 := ⟨bw (t_8 _ (List.mem_of_getElem? (i := 231) rfl)) rfl, (bw (t_1 _ (List.mem_of_getElem? (i := 13) rfl)) rfl), by decide +kernel, by decide +kernel, by decide +kernel⟩
theorem mv_X12_owes : MLv yX12_owes := ⟨(bw (t_8 _ (List.mem_of_getElem? (i := 229) rfl)) rfl), (bw (t_8 _ (List.mem_of_getElem? (i := 230) rfl)) rfl)⟩
theorem ml_X12_part : MLc yX12_part cX12_part 2 none 0 := ⟨bw (t_8 _ (List.mem_of_getElem? (i := 122) rfl)) rfl, (bw (t_1 _ (List.mem_of_getElem? (i := 13) rfl)) rfl), by decide +kernel, by decide +kernel, by decide +kernel⟩
theorem mv_X12_part : MLv yX12_part := ⟨(bw (t_8 _ (List.mem_of_getElem? (i := 121) rfl)) rfl), (bw (List.mem_append_left tables_1 (List.mem_of_getElem? (l := k2_sels lw_privs) (i := 59) rfl)) rfl)⟩
theorem ml_X12_partOf : MLc yX12_partOf cX12_partOf 6 (some .int) 0 := ⟨bw (t_8 _ (List.mem_of_getElem? (i := 190) rfl)) rfl, (bw (t_1 _ (List.mem_of_getElem? (i := 13) rfl)) rfl), by decide +kernel, by decide +kernel, by decide +kernel⟩
theorem mv_X12_partOf : MLv yX12_partOf := ⟨(bw (t_8 _ (List.mem_of_getElem? (i := 189) rfl)) rfl), (bw (List.mem_append_left tables_1 (List.mem_of_getElem? (l := k2_sels lw_privs) (i := 72) rfl)) rfl)⟩
theorem ml_X12_passes : MLc yX12_passes cX12_passes 4 none 1 := ⟨bw (t_8 _ (List.mem_of_getElem? (i := 199) rfl)) rfl, (bw (t_1 _ (List.mem_of_getElem? (i := 13) rfl)) rfl), by decide +kernel, by decide +kernel, by decide +kernel⟩
theorem mv_X12_passes : MLv yX12_passes := ⟨(bw (t_8 _ (List.mem_of_getElem? (i := 198) rfl)) rfl), (bw (List.mem_append_left tables_1 (List.mem_of_getElem? (l := k2_sels lw_privs) (i := 74) rfl)) rfl)⟩
theorem ml_X12_passesOn : MLc yX12_passesOn cX12_passesOn 7 none 2 := ⟨bw (t_8 _ (List.mem_of_getElem? (i := 203) rfl)) rfl, (bw (t_1 _ (List.mem_of_getElem? (i := 13) rfl)) rfl), by decide +kernel, by decide +kernel, by decide +kernel⟩
theorem mv_X12_passesOn : MLv yX12_passesOn := ⟨(bw (t_8 _ (List.mem_of_getElem? (i := 202) rfl)) rfl), (bw (List.mem_append_left tables_1 (List.mem_of_getElem? (l := k2_sels lw_privs) (i := 75) rfl)) rfl)⟩
theorem ml_X12_payments : MLc yX12_payments cX12_payments 7 (some .int) 2 := ⟨bw (t_9 _ (List.mem_of_getElem? (i := 7) rfl)) rfl, (bw (t_1 _ (List.mem_of_getElem? (i := 13) rfl)) rfl), by decide +kernel, by decide +kernel, by decide +kernel⟩
theorem mv_X12_payments : MLv yX12_payments := ⟨(bw (t_9 _ (List.mem_of_getElem? (i := 5) rfl)) rfl), (bw (t_9 _ (List.mem_of_getElem? (i := 6) rfl)) rfl)⟩
theorem ml_X12_pays : MLc yX12_pays cX12_pays 5 none 2 := ⟨bw (t_8 _ (List.mem_of_getElem? (i := 211) rfl)) rfl, (bw (t_1 _ (List.mem_of_getElem? (i := 13) rfl)) rfl), by decide +kernel, by decide +kernel, by decide +kernel⟩
theorem mv_X12_pays : MLv yX12_pays := ⟨(bw (t_8 _ (List.mem_of_getElem? (i := 210) rfl)) rfl), (bw (List.mem_append_left tables_1 (List.mem_of_getElem? (l := k2_sels lw_privs) (i := 77) rfl)) rfl)⟩
theorem ml_X12_person : MLc yX12_person cX12_person 3 (some .int) 2 := ⟨bw (t_7 _ (List.mem_of_getElem? (i := 216) rfl)) rfl, (bw (t_1 _ (List.mem_of_getElem? (i := 13) rfl)) rfl), by decide +kernel, by decide +kernel, by decide +kernel⟩
theorem mv_X12_person : MLv yX12_person := ⟨(bw (t_7 _ (List.mem_of_getElem? (i := 214) rfl)) rfl), (bw (t_7 _ (List.mem_of_getElem? (i := 215) rfl)) rfl)⟩
theorem ml_X12_puts : MLc yX12_puts cX12_puts 2 none 1 := ⟨bw (t_8 _ (List.mem_of_getElem? (i := 126) rfl)) rfl, (bw (t_1 _ (List.mem_of_getElem? (i := 13) rfl)) rfl), by decide +kernel, by decide +kernel, by decide +kernel⟩
theorem mv_X12_puts : MLv yX12_puts := ⟨(bw (t_8 _ (List.mem_of_getElem? (i := 125) rfl)) rfl), (bw (List.mem_append_left tables_1 (List.mem_of_getElem? (l := k2_sels lw_privs) (i := 60) rfl)) rfl)⟩
theorem ml_X12_rate : MLc yX12_rate cX12_rate 4 (some .boolean) 3 := ⟨bw (t_7 _ (List.mem_of_getElem? (i := 199) rfl)) rfl, (bw (t_1 _ (List.mem_of_getElem? (i := 13) rfl)) rfl), by decide +kernel, by decide +kernel, by decide +kernel⟩
theorem mv_X12_rate : MLv yX12_rate := ⟨(bw (t_7 _ (List.mem_of_getElem? (i := 197) rfl)) rfl), (bw (t_7 _ (List.mem_of_getElem? (i := 198) rfl)) rfl)⟩
theorem ml_X12_rateOf : MLc yX12_rateOf cX12_rateOf 5 (some .int) 2 := ⟨bw (t_8 _ (List.mem_of_getElem? (i := 166) rfl)) rfl, (bw (t_1 _ (List.mem_of_getElem? (i := 13) rfl)) rfl), by decide +kernel, by decide +kernel, by decide +kernel⟩
theorem mv_X12_rateOf : MLv yX12_rateOf := ⟨(bw (t_8 _ (List.mem_of_getElem? (i := 165) rfl)) rfl), (bw (List.mem_append_left tables_1 (List.mem_of_getElem? (l := k2_sels lw_privs) (i := 67) rfl)) rfl)⟩
theorem ml_X12_reads : MLc yX12_reads cX12_reads 3 none 2 := ⟨bw (t_8 _ (List.mem_of_getElem? (i := 62) rfl)) rfl, (bw (t_1 _ (List.mem_of_getElem? (i := 13) rfl)) rfl), by decide +kernel, by decide +kernel, by decide +kernel⟩
theorem mv_X12_reads : MLv yX12_reads := ⟨(bw (t_8 _ (List.mem_of_getElem? (i := 61) rfl)) rfl), (bw (List.mem_append_left tables_1 (List.mem_of_getElem? (l := k2_sels lw_privs) (i := 47) rfl)) rfl)⟩
theorem ml_X12_right : MLc yX12_right cX12_right 3 (some .boolean) 2 := ⟨bw (t_7 _ (List.mem_of_getElem? (i := 207) rfl)) rfl, (bw (t_1 _ (List.mem_of_getElem? (i := 13) rfl)) rfl), by decide +kernel, by decide +kernel, by decide +kernel⟩
theorem mv_X12_right : MLv yX12_right := ⟨(bw (t_7 _ (List.mem_of_getElem? (i := 206) rfl)) rfl), (bw (List.mem_append_left tables_1 (List.mem_of_getElem? (l := k2_sels lw_privs) (i := 38) rfl)) rfl)⟩
theorem ml_X12_sale : MLc yX12_sale cX12_sale 9 (some .int) 7 := ⟨bw (t_8 _ (List.mem_of_getElem? (i := 25) rfl)) rfl, (bw (t_1 _ (List.mem_of_getElem? (i := 13) rfl)) rfl), by decide +kernel, by decide +kernel, by decide +kernel⟩
theorem mv_X12_sale : MLv yX12_sale := ⟨(bw (t_8 _ (List.mem_of_getElem? (i := 23) rfl)) rfl), (bw (t_8 _ (List.mem_of_getElem? (i := 24) rfl)) rfl)⟩
theorem ml_X12_sells : MLc yX12_sells cX12_sells 3 none 1 := ⟨bw (t_8 _ (List.mem_of_getElem? (i := 162) rfl)) rfl, (bw (t_1 _ (List.mem_of_getElem? (i := 13) rfl)) rfl), by decide +kernel, by decide +kernel, by decide +kernel⟩
theorem mv_X12_sells : MLv yX12_sells := ⟨(bw (t_8 _ (List.mem_of_getElem? (i := 161) rfl)) rfl), (bw (List.mem_append_left tables_1 (List.mem_of_getElem? (l := k2_sels lw_privs) (i := 66) rfl)) rfl)⟩
theorem ml_X12_shares : MLc yX12_shares cX12_shares 10 none 1 := ⟨bw (t_8 _ (List.mem_of_getElem? (i := 195) rfl)) rfl, (bw (t_1 _ (List.mem_of_getElem? (i := 13) rfl)) rfl), by decide +kernel, by decide +kernel, by decide +kernel⟩
theorem mv_X12_shares : MLv yX12_shares := ⟨(bw (t_8 _ (List.mem_of_getElem? (i := 194) rfl)) rfl), (bw (List.mem_append_left tables_1 (List.mem_of_getElem? (l := k2_sels lw_privs) (i := 73) rfl)) rfl)⟩
theorem ml_X12_society : MLc yX12_society cX12_society 3 (some .int) 2 := ⟨bw (t_8 _ (List.mem_of_getElem? (i := 1) rfl)) rfl, (bw (t_1 _ (List.mem_of_getElem? (i := 13) rfl)) rfl), by decide +kernel, by decide +kernel, by decide +kernel⟩
theorem mv_X12_society : MLv yX12_society := ⟨(bw (t_7 _ (List.mem_of_getElem? (i := 239) rfl)) rfl), (bw (t_8 _ (List.mem_of_getElem? (i := 0) rfl)) rfl)⟩
theorem ml_X12_sold : MLc yX12_sold cX12_sold 4 (some .int) 3 := ⟨bw (t_8 _ (List.mem_of_getElem? (i := 150) rfl)) rfl, (bw (t_1 _ (List.mem_of_getElem? (i := 13) rfl)) rfl), by decide +kernel, by decide +kernel, by decide +kernel⟩
theorem mv_X12_sold : MLv yX12_sold := ⟨(bw (t_8 _ (List.mem_of_getElem? (i := 148) rfl)) rfl), (bw (t_8 _ (List.mem_of_getElem? (i := 149) rfl)) rfl)⟩
theorem ml_X12_spelled : MLc yX12_spelled cX12_spelled 9 (some .long) 7 := ⟨bw (t_8 _ (List.mem_of_getElem? (i := 94) rfl)) rfl, (bw (t_1 _ (List.mem_of_getElem? (i := 13) rfl)) rfl), by decide +kernel, by decide +kernel, by decide +kernel⟩
theorem ms_X12_spelled : Cond.static yX12_spelled ∈ BW := (bw (t_8 _ (List.mem_of_getElem? (i := 93) rfl)) rfl)
theorem ml_X12_step : MLc yX12_step cX12_step 4 none 1 := ⟨bw (t_8 _ (List.mem_of_getElem? (i := 137) rfl)) rfl, (bw (t_1 _ (List.mem_of_getElem? (i := 13) rfl)) rfl), by decide +kernel, by decide +kernel, by decide +kernel⟩
theorem mv_X12_step : MLv yX12_step := ⟨(bw (t_8 _ (List.mem_of_getElem? (i := 136) rfl)) rfl), (bw (List.mem_append_left tables_1 (List.mem_of_getElem? (l := k2_sels lw_privs) (i := 62) rfl)) rfl)⟩
theorem ml_X12_strength : MLc yX12_strength cX12_strength 1 (some .int) 1 := ⟨bw (t_8 _ (List.mem_of_getElem? (i := 133) rfl)) rfl, (bw (t_1 _ (List.mem_of_getElem? (i := 13) rfl)) rfl), by decide +kernel, by decide +kernel, by decide +kernel⟩
theorem ms_X12_strength : Cond.static yX12_strength ∈ BW := (bw (t_8 _ (List.mem_of_getElem? (i := 132) rfl)) rfl)
theorem ml_X12_tells : MLc yX12_tells cX12_tells 5 (some .int) 4 := ⟨bw (t_8 _ (List.mem_of_getElem? (i := 13) rfl)) rfl, (bw (t_1 _ (List.mem_of_getElem? (i := 13) rfl)) rfl), by decide +kernel, by decide +kernel, by decide +kernel⟩
theorem mv_X12_tells : MLv yX12_tells := ⟨(bw (t_8 _ (List.mem_of_getElem? (i := 12) rfl)) rfl), (bw (List.mem_append_left tables_1 (List.mem_of_getElem? (l := k2_sels lw_privs) (i := 42) rfl)) rfl)⟩
theorem ml_X12_thrown : MLc yX12_thrown cX12_thrown 1 (some .int) 0 := ⟨bw (t_7 _ (List.mem_of_getElem? (i := 191) rfl)) rfl, (bw (t_1 _ (List.mem_of_getElem? (i := 13) rfl)) rfl), by decide +kernel, by decide +kernel, by decide +kernel⟩
theorem mv_X12_thrown : MLv yX12_thrown := ⟨(bw (t_7 _ (List.mem_of_getElem? (i := 189) rfl)) rfl), (bw (t_7 _ (List.mem_of_getElem? (i := 190) rfl)) rfl)⟩
theorem ml_X12_waitsFor : MLc yX12_waitsFor cX12_waitsFor 2 none 1 := ⟨bw (t_8 _ (List.mem_of_getElem? (i := 118) rfl)) rfl, (bw (t_1 _ (List.mem_of_getElem? (i := 13) rfl)) rfl), by decide +kernel, by decide +kernel, by decide +kernel⟩
theorem mv_X12_waitsFor : MLv yX12_waitsFor := ⟨(bw (t_8 _ (List.mem_of_getElem? (i := 117) rfl)) rfl), (bw (List.mem_append_left tables_1 (List.mem_of_getElem? (l := k2_sels lw_privs) (i := 58) rfl)) rfl)⟩
theorem ml_X12_with : MLc yX12_with cX12_with 6 (some .int) 3 := ⟨bw (t_9 _ (List.mem_of_getElem? (i := 22) rfl)) rfl, (bw (t_1 _ (List.mem_of_getElem? (i := 13) rfl)) rfl), by decide +kernel, by decide +kernel, by decide +kernel⟩
theorem mv_X12_with : MLv yX12_with := ⟨(bw (t_9 _ (List.mem_of_getElem? (i := 20) rfl)) rfl), (bw (t_9 _ (List.mem_of_getElem? (i := 21) rfl)) rfl)⟩
theorem ml_X12_work : MLc yX12_work cX12_work 8 (some .int) 6 := ⟨bw (t_7 _ (List.mem_of_getElem? (i := 220) rfl)) rfl, (bw (t_1 _ (List.mem_of_getElem? (i := 13) rfl)) rfl), by decide +kernel, by decide +kernel, by decide +kernel⟩
theorem mv_X12_work : MLv yX12_work := ⟨(bw (t_7 _ (List.mem_of_getElem? (i := 218) rfl)) rfl), (bw (t_7 _ (List.mem_of_getElem? (i := 219) rfl)) rfl)⟩
theorem ml_X12_works : MLc yX12_works cX12_works 3 (some .int) 3 := ⟨bw (t_8 _ (List.mem_of_getElem? (i := 186) rfl)) rfl, (bw (t_1 _ (List.mem_of_getElem? (i := 13) rfl)) rfl), by decide +kernel, by decide +kernel, by decide +kernel⟩
theorem ms_X12_works : Cond.static yX12_works ∈ BW := (bw (t_8 _ (List.mem_of_getElem? (i := 185) rfl)) rfl)
theorem ml_X12_worth : MLc yX12_worth cX12_worth 5 (some .int) 1 := ⟨bw (t_8 _ (List.mem_of_getElem? (i := 183) rfl)) rfl, (bw (t_1 _ (List.mem_of_getElem? (i := 13) rfl)) rfl), by decide +kernel, by decide +kernel, by decide +kernel⟩
theorem mv_X12_worth : MLv yX12_worth := ⟨(bw (t_8 _ (List.mem_of_getElem? (i := 182) rfl)) rfl), (bw (List.mem_append_left tables_1 (List.mem_of_getElem? (l := k2_sels lw_privs) (i := 71) rfl)) rfl)⟩
theorem ml_X12_wrong : MLc yX12_wrong cX12_wrong 2 none 1 := ⟨bw (t_8 _ (List.mem_of_getElem? (i := 98) rfl)) rfl, (bw (t_1 _ (List.mem_of_getElem? (i := 13) rfl)) rfl), by decide +kernel, by decide +kernel, by decide +kernel⟩
theorem mv_X12_wrong : MLv yX12_wrong := ⟨(bw (t_8 _ (List.mem_of_getElem? (i := 97) rfl)) rfl), (bw (List.mem_append_left tables_1 (List.mem_of_getElem? (l := k2_sels lw_privs) (i := 53) rfl)) rfl)⟩
theorem ml_X2_addOwed : MLc yX2_addOwed cX2_addOwed 4 none 1 := ⟨bw (t_6 _ (List.mem_of_getElem? (i := 12) rfl)) rfl, (bw (t_1 _ (List.mem_of_getElem? (i := 11) rfl)) rfl), by decide +kernel, by decide +kernel, by decide +kernel⟩
theorem mv_X2_addOwed : MLv yX2_addOwed := ⟨(bw (t_6 _ (List.mem_of_getElem? (i := 11) rfl)) rfl), (bw (List.mem_append_left tables_1 (List.mem_of_getElem? (l := k2_sels lw_privs) (i := 34) rfl)) rfl)⟩
theorem ml_X2_clear : MLc yX2_clear cX2_clear 6 none 2 := ⟨bw (t_6 _ (List.mem_of_getElem? (i := 2) rfl)) rfl, (bw (t_1 _ (List.mem_of_getElem? (i := 11) rfl)) rfl), by decide +kernel, by decide +kernel, by decide +kernel⟩
theorem mv_X2_clear : MLv yX2_clear := ⟨(bw (t_6 _ (List.mem_of_getElem? (i := 0) rfl)) rfl), (bw (t_6 _ (List.mem_of_getElem? (i := 1) rfl)) rfl)⟩
theorem ml_X2_fewestPayments : MLc yX2_fewestPayments cX2_fewestPayments 3 (some .int) 0 := ⟨bw (t_6 _ (List.mem_of_getElem? (i := 43) rfl)) rfl, (bw (t_1 _ (List.mem_of_getElem? (i := 11) rfl)) rfl), by decide +kernel, by decide +kernel, by decide +kernel⟩
theorem mv_X2_fewestPayments : MLv yX2_fewestPayments := ⟨(bw (t_6 _ (List.mem_of_getElem? (i := 41) rfl)) rfl), (bw (t_6 _ (List.mem_of_getElem? (i := 42) rfl)) rfl)⟩
theorem ml_X2_init : MLc yX2_init cX2_init 3 none 2 := ⟨bw (t_2 _ (List.mem_of_getElem? (i := 198) rfl)) rfl, (bw (t_1 _ (List.mem_of_getElem? (i := 11) rfl)) rfl), by decide +kernel, by decide +kernel, by decide +kernel⟩
theorem mi_X2_init : Cond.instanceMethod yX2_init ∈ BW ∧ yX2_init.name = "<init>" := ⟨(bw (t_2 _ (List.mem_of_getElem? (i := 197) rfl)) rfl), rfl⟩
theorem ml_X2_netOf : MLc yX2_netOf cX2_netOf 5 (some .long) 1 := ⟨bw (t_6 _ (List.mem_of_getElem? (i := 31) rfl)) rfl, (bw (t_1 _ (List.mem_of_getElem? (i := 11) rfl)) rfl), by decide +kernel, by decide +kernel, by decide +kernel⟩
theorem mv_X2_netOf : MLv yX2_netOf := ⟨(bw (t_6 _ (List.mem_of_getElem? (i := 29) rfl)) rfl), (bw (t_6 _ (List.mem_of_getElem? (i := 30) rfl)) rfl)⟩
theorem ml_X2_owed : MLc yX2_owed cX2_owed 4 (some .long) 2 := ⟨bw (t_6 _ (List.mem_of_getElem? (i := 20) rfl)) rfl, (bw (t_1 _ (List.mem_of_getElem? (i := 11) rfl)) rfl), by decide +kernel, by decide +kernel, by decide +kernel⟩
theorem mv_X2_owed : MLv yX2_owed := ⟨(bw (t_6 _ (List.mem_of_getElem? (i := 18) rfl)) rfl), (bw (t_6 _ (List.mem_of_getElem? (i := 19) rfl)) rfl)⟩
theorem ml_X2_pairOf : MLc yX2_pairOf cX2_pairOf 3 (some .int) 2 := ⟨bw (t_6 _ (List.mem_of_getElem? (i := 15) rfl)) rfl, (bw (t_1 _ (List.mem_of_getElem? (i := 11) rfl)) rfl), by decide +kernel, by decide +kernel, by decide +kernel⟩
theorem ms_X2_pairOf : Cond.static yX2_pairOf ∈ BW := (bw (t_6 _ (List.mem_of_getElem? (i := 14) rfl)) rfl)
theorem ml_X3_init : MLc yX3_init cX3_init 7 none 6 := ⟨bw (t_1 _ (List.mem_of_getElem? (i := 136) rfl)) rfl, (bw (t_1 _ (List.mem_of_getElem? (i := 8) rfl)) rfl), by decide +kernel, by decide +kernel, by decide +kernel⟩
theorem mi_X3_init : Cond.instanceMethod yX3_init ∈ BW ∧ yX3_init.name = "<init>" := ⟨(bw (t_1 _ (List.mem_of_getElem? (i := 135) rfl)) rfl), rfl⟩
theorem ml_X3_isHandOf : MLc yX3_isHandOf cX3_isHandOf 2 (some .boolean) 1 := ⟨bw (t_5 _ (List.mem_of_getElem? (i := 113) rfl)) rfl, (bw (t_1 _ (List.mem_of_getElem? (i := 8) rfl)) rfl), by decide +kernel, by decide +kernel, by decide +kernel⟩
theorem mv_X3_isHandOf : MLv yX3_isHandOf := ⟨(bw (t_5 _ (List.mem_of_getElem? (i := 111) rfl)) rfl), (bw (t_5 _ (List.mem_of_getElem? (i := 112) rfl)) rfl)⟩
theorem ml_X3_isSaleOf : MLc yX3_isSaleOf cX3_isSaleOf 2 (some .boolean) 1 := ⟨bw (t_5 _ (List.mem_of_getElem? (i := 231) rfl)) rfl, (bw (t_1 _ (List.mem_of_getElem? (i := 8) rfl)) rfl), by decide +kernel, by decide +kernel, by decide +kernel⟩
theorem mv_X3_isSaleOf : MLv yX3_isSaleOf := ⟨(bw (t_5 _ (List.mem_of_getElem? (i := 229) rfl)) rfl), (bw (t_5 _ (List.mem_of_getElem? (i := 230) rfl)) rfl)⟩
theorem ml_X4_addDue : MLc yX4_addDue cX4_addDue 2 none 1 := ⟨bw (t_5 _ (List.mem_of_getElem? (i := 44) rfl)) rfl, (bw (t_1 _ (List.mem_of_getElem? (i := 9) rfl)) rfl), by decide +kernel, by decide +kernel, by decide +kernel⟩
theorem mv_X4_addDue : MLv yX4_addDue := ⟨(bw (t_5 _ (List.mem_of_getElem? (i := 42) rfl)) rfl), (bw (t_5 _ (List.mem_of_getElem? (i := 43) rfl)) rfl)⟩
theorem ml_X4_addStep : MLc yX4_addStep cX4_addStep 3 none 2 := ⟨bw (t_5 _ (List.mem_of_getElem? (i := 59) rfl)) rfl, (bw (t_1 _ (List.mem_of_getElem? (i := 9) rfl)) rfl), by decide +kernel, by decide +kernel, by decide +kernel⟩
theorem mv_X4_addStep : MLv yX4_addStep := ⟨(bw (t_5 _ (List.mem_of_getElem? (i := 57) rfl)) rfl), (bw (t_5 _ (List.mem_of_getElem? (i := 58) rfl)) rfl)⟩
theorem ml_X4_agreeWith : MLc yX4_agreeWith cX4_agreeWith 2 none 1 := ⟨bw (t_5 _ (List.mem_of_getElem? (i := 67) rfl)) rfl, (bw (t_1 _ (List.mem_of_getElem? (i := 9) rfl)) rfl), by decide +kernel, by decide +kernel, by decide +kernel⟩
theorem mv_X4_agreeWith : MLv yX4_agreeWith := ⟨(bw (t_5 _ (List.mem_of_getElem? (i := 65) rfl)) rfl), (bw (t_5 _ (List.mem_of_getElem? (i := 66) rfl)) rfl)⟩
theorem ml_X4_blank : MLc yX4_blank cX4_blank 1 none 0 := ⟨bw (t_1 _ (List.mem_of_getElem? (i := 225) rfl)) rfl, (bw (t_1 _ (List.mem_of_getElem? (i := 9) rfl)) rfl), by decide +kernel, by decide +kernel, by decide +kernel⟩
theorem mv_X4_blank : MLv yX4_blank := ⟨(bw (t_1 _ (List.mem_of_getElem? (i := 223) rfl)) rfl), (bw (t_1 _ (List.mem_of_getElem? (i := 224) rfl)) rfl)⟩
theorem ml_X4_init : MLc yX4_init cX4_init 1 none 0 := ⟨bw (t_1 _ (List.mem_of_getElem? (i := 220) rfl)) rfl, (bw (t_1 _ (List.mem_of_getElem? (i := 9) rfl)) rfl), by decide +kernel, by decide +kernel, by decide +kernel⟩
theorem mi_X4_init : Cond.instanceMethod yX4_init ∈ BW ∧ yX4_init.name = "<init>" := ⟨(bw (t_1 _ (List.mem_of_getElem? (i := 219) rfl)) rfl), rfl⟩
theorem ml_X4_isDue : MLc yX4_isDue cX4_isDue 3 (some .boolean) 2 := ⟨bw (t_5 _ (List.mem_of_getElem? (i := 140) rfl)) rfl, (bw (t_1 _ (List.mem_of_getElem? (i := 9) rfl)) rfl), by decide +kernel, by decide +kernel, by decide +kernel⟩
theorem mv_X4_isDue : MLv yX4_isDue := ⟨(bw (t_5 _ (List.mem_of_getElem? (i := 138) rfl)) rfl), (bw (t_5 _ (List.mem_of_getElem? (i := 139) rfl)) rfl)⟩
theorem ml_X4_isFor : MLc yX4_isFor cX4_isFor 2 (some .boolean) 1 := ⟨bw (t_5 _ (List.mem_of_getElem? (i := 172) rfl)) rfl, (bw (t_1 _ (List.mem_of_getElem? (i := 9) rfl)) rfl), by decide +kernel, by decide +kernel, by decide +kernel⟩
theorem mv_X4_isFor : MLv yX4_isFor := ⟨(bw (t_5 _ (List.mem_of_getElem? (i := 170) rfl)) rfl), (bw (t_5 _ (List.mem_of_getElem? (i := 171) rfl)) rfl)⟩
theorem ml_X4_join : MLc yX4_join cX4_join 3 (some .int) 3 := ⟨bw (t_5 _ (List.mem_of_getElem? (i := 153) rfl)) rfl, (bw (t_1 _ (List.mem_of_getElem? (i := 9) rfl)) rfl), by decide +kernel, by decide +kernel, by decide +kernel⟩
theorem ms_X4_join : Cond.static yX4_join ∈ BW := (bw (t_5 _ (List.mem_of_getElem? (i := 152) rfl)) rfl)
theorem ml_X4_lastStep : MLc yX4_lastStep cX4_lastStep 1 (some .int) 0 := ⟨bw (t_5 _ (List.mem_of_getElem? (i := 55) rfl)) rfl, (bw (t_1 _ (List.mem_of_getElem? (i := 9) rfl)) rfl), by decide +kernel, by decide +kernel, by decide +kernel⟩
theorem mv_X4_lastStep : MLv yX4_lastStep := ⟨(bw (t_5 _ (List.mem_of_getElem? (i := 53) rfl)) rfl), (bw (t_5 _ (List.mem_of_getElem? (i := 54) rfl)) rfl)⟩
theorem ml_X4_operand : MLc yX4_operand cX4_operand 2 (some .int) 2 := ⟨bw (t_5 _ (List.mem_of_getElem? (i := 147) rfl)) rfl, (bw (t_1 _ (List.mem_of_getElem? (i := 9) rfl)) rfl), by decide +kernel, by decide +kernel, by decide +kernel⟩
theorem ms_X4_operand : Cond.static yX4_operand ∈ BW := (bw (t_5 _ (List.mem_of_getElem? (i := 146) rfl)) rfl)
theorem ml_X4_partOf : MLc yX4_partOf cX4_partOf 7 (some .int) 1 := ⟨bw (t_5 _ (List.mem_of_getElem? (i := 157) rfl)) rfl, (bw (t_1 _ (List.mem_of_getElem? (i := 9) rfl)) rfl), by decide +kernel, by decide +kernel, by decide +kernel⟩
theorem mv_X4_partOf : MLv yX4_partOf := ⟨(bw (t_5 _ (List.mem_of_getElem? (i := 155) rfl)) rfl), (bw (t_5 _ (List.mem_of_getElem? (i := 156) rfl)) rfl)⟩
theorem ml_X4_startDue : MLc yX4_startDue cX4_startDue 1 none 0 := ⟨bw (t_5 _ (List.mem_of_getElem? (i := 6) rfl)) rfl, (bw (t_1 _ (List.mem_of_getElem? (i := 9) rfl)) rfl), by decide +kernel, by decide +kernel, by decide +kernel⟩
theorem mv_X4_startDue : MLv yX4_startDue := ⟨(bw (t_5 _ (List.mem_of_getElem? (i := 4) rfl)) rfl), (bw (t_5 _ (List.mem_of_getElem? (i := 5) rfl)) rfl)⟩
theorem ml_X4_truth : MLc yX4_truth cX4_truth 1 (some .int) 1 := ⟨bw (t_5 _ (List.mem_of_getElem? (i := 150) rfl)) rfl, (bw (t_1 _ (List.mem_of_getElem? (i := 9) rfl)) rfl), by decide +kernel, by decide +kernel, by decide +kernel⟩
theorem ms_X4_truth : Cond.static yX4_truth ∈ BW := (bw (t_5 _ (List.mem_of_getElem? (i := 149) rfl)) rfl)
theorem ml_X4_worth : MLc yX4_worth cX4_worth 5 (some .int) 1 := ⟨bw (t_5 _ (List.mem_of_getElem? (i := 144) rfl)) rfl, (bw (t_1 _ (List.mem_of_getElem? (i := 9) rfl)) rfl), by decide +kernel, by decide +kernel, by decide +kernel⟩
theorem mv_X4_worth : MLv yX4_worth := ⟨(bw (t_5 _ (List.mem_of_getElem? (i := 143) rfl)) rfl), (bw (List.mem_append_left tables_1 (List.mem_of_getElem? (l := k2_sels lw_privs) (i := 26) rfl)) rfl)⟩
theorem ml_X5_init : MLc yX5_init cX5_init 3 none 2 := ⟨bw (t_1 _ (List.mem_of_getElem? (i := 54) rfl)) rfl, (bw (t_1 _ (List.mem_of_getElem? (i := 3) rfl)) rfl), by decide +kernel, by decide +kernel, by decide +kernel⟩
theorem mi_X5_init : Cond.instanceMethod yX5_init ∈ BW ∧ yX5_init.name = "<init>" := ⟨(bw (t_1 _ (List.mem_of_getElem? (i := 53) rfl)) rfl), rfl⟩
theorem ml_X6_init : MLc yX6_init cX6_init 4 none 3 := ⟨bw (t_1 _ (List.mem_of_getElem? (i := 117) rfl)) rfl, (bw (t_1 _ (List.mem_of_getElem? (i := 6) rfl)) rfl), by decide +kernel, by decide +kernel, by decide +kernel⟩
theorem mi_X6_init : Cond.instanceMethod yX6_init ∈ BW ∧ yX6_init.name = "<init>" := ⟨(bw (t_1 _ (List.mem_of_getElem? (i := 116) rfl)) rfl), rfl⟩
theorem ml_X7_init : MLc yX7_init cX7_init 1 none 0 := ⟨bw (t_2 _ (List.mem_of_getElem? (i := 221) rfl)) rfl, (bw (t_1 _ (List.mem_of_getElem? (i := 12) rfl)) rfl), by decide +kernel, by decide +kernel, by decide +kernel⟩
theorem mi_X7_init : Cond.instanceMethod yX7_init ∈ BW ∧ yX7_init.name = "<init>" := ⟨(bw (t_2 _ (List.mem_of_getElem? (i := 220) rfl)) rfl), rfl⟩
theorem ml_X7_isName : MLc yX7_isName cX7_isName 5 (some .boolean) 3 := ⟨bw (t_4 _ (List.mem_of_getElem? (i := 238) rfl)) rfl, (bw (t_1 _ (List.mem_of_getElem? (i := 12) rfl)) rfl), by decide +kernel, by decide +kernel, by decide +kernel⟩
theorem mv_X7_isName : MLv yX7_isName := ⟨(bw (t_4 _ (List.mem_of_getElem? (i := 237) rfl)) rfl), (bw (List.mem_append_left tables_1 (List.mem_of_getElem? (l := k2_sels lw_privs) (i := 11) rfl)) rfl)⟩
theorem ml_X7_isWord : MLc yX7_isWord cX7_isWord 2 (some .boolean) 1 := ⟨bw (t_5 _ (List.mem_of_getElem? (i := 23) rfl)) rfl, (bw (t_1 _ (List.mem_of_getElem? (i := 12) rfl)) rfl), by decide +kernel, by decide +kernel, by decide +kernel⟩
theorem mv_X7_isWord : MLv yX7_isWord := ⟨(bw (t_5 _ (List.mem_of_getElem? (i := 22) rfl)) rfl), (bw (List.mem_append_left tables_1 (List.mem_of_getElem? (l := k2_sels lw_privs) (i := 16) rfl)) rfl)⟩
theorem ml_X7_next : MLc yX7_next cX7_next 1 none 0 := ⟨bw (t_4 _ (List.mem_of_getElem? (i := 119) rfl)) rfl, (bw (t_1 _ (List.mem_of_getElem? (i := 12) rfl)) rfl), by decide +kernel, by decide +kernel, by decide +kernel⟩
theorem mv_X7_next : MLv yX7_next := ⟨(bw (t_4 _ (List.mem_of_getElem? (i := 118) rfl)) rfl), (bw (List.mem_append_left tables_1 (List.mem_of_getElem? (l := k2_sels lw_privs) (i := 8) rfl)) rfl)⟩
theorem ml_X7_read : MLc yX7_read cX7_read 6 (some .int) 4 := ⟨bw (t_4 _ (List.mem_of_getElem? (i := 111) rfl)) rfl, (bw (t_1 _ (List.mem_of_getElem? (i := 12) rfl)) rfl), by decide +kernel, by decide +kernel, by decide +kernel⟩
theorem mv_X7_read : MLv yX7_read := ⟨(bw (t_4 _ (List.mem_of_getElem? (i := 109) rfl)) rfl), (bw (t_4 _ (List.mem_of_getElem? (i := 110) rfl)) rfl)⟩
theorem ml_X7_readAnd : MLc yX7_readAnd cX7_readAnd 3 none 1 := ⟨bw (t_5 _ (List.mem_of_getElem? (i := 14) rfl)) rfl, (bw (t_1 _ (List.mem_of_getElem? (i := 12) rfl)) rfl), by decide +kernel, by decide +kernel, by decide +kernel⟩
theorem mv_X7_readAnd : MLv yX7_readAnd := ⟨(bw (t_5 _ (List.mem_of_getElem? (i := 13) rfl)) rfl), (bw (List.mem_append_left tables_1 (List.mem_of_getElem? (l := k2_sels lw_privs) (i := 14) rfl)) rfl)⟩
theorem ml_X7_readClause : MLc yX7_readClause cX7_readClause 4 none 1 := ⟨bw (t_4 _ (List.mem_of_getElem? (i := 208) rfl)) rfl, (bw (t_1 _ (List.mem_of_getElem? (i := 12) rfl)) rfl), by decide +kernel, by decide +kernel, by decide +kernel⟩
theorem mv_X7_readClause : MLv yX7_readClause := ⟨(bw (t_4 _ (List.mem_of_getElem? (i := 207) rfl)) rfl), (bw (List.mem_append_left tables_1 (List.mem_of_getElem? (l := k2_sels lw_privs) (i := 9) rfl)) rfl)⟩
theorem ml_X7_readExpr : MLc yX7_readExpr cX7_readExpr 3 none 1 := ⟨bw (t_5 _ (List.mem_of_getElem? (i := 10) rfl)) rfl, (bw (t_1 _ (List.mem_of_getElem? (i := 12) rfl)) rfl), by decide +kernel, by decide +kernel, by decide +kernel⟩
theorem mv_X7_readExpr : MLv yX7_readExpr := ⟨(bw (t_5 _ (List.mem_of_getElem? (i := 9) rfl)) rfl), (bw (List.mem_append_left tables_1 (List.mem_of_getElem? (l := k2_sels lw_privs) (i := 13) rfl)) rfl)⟩
theorem ml_X7_readNot : MLc yX7_readNot cX7_readNot 4 none 1 := ⟨bw (t_5 _ (List.mem_of_getElem? (i := 18) rfl)) rfl, (bw (t_1 _ (List.mem_of_getElem? (i := 12) rfl)) rfl), by decide +kernel, by decide +kernel, by decide +kernel⟩
theorem mv_X7_readNot : MLv yX7_readNot := ⟨(bw (t_5 _ (List.mem_of_getElem? (i := 17) rfl)) rfl), (bw (List.mem_append_left tables_1 (List.mem_of_getElem? (l := k2_sels lw_privs) (i := 15) rfl)) rfl)⟩
theorem ml_X7_readPart : MLc yX7_readPart cX7_readPart 3 none 1 := ⟨bw (t_5 _ (List.mem_of_getElem? (i := 35) rfl)) rfl, (bw (t_1 _ (List.mem_of_getElem? (i := 12) rfl)) rfl), by decide +kernel, by decide +kernel, by decide +kernel⟩
theorem mv_X7_readPart : MLv yX7_readPart := ⟨(bw (t_5 _ (List.mem_of_getElem? (i := 34) rfl)) rfl), (bw (List.mem_append_left tables_1 (List.mem_of_getElem? (l := k2_sels lw_privs) (i := 19) rfl)) rfl)⟩
theorem ml_X7_readProduct : MLc yX7_readProduct cX7_readProduct 4 none 1 := ⟨bw (t_5 _ (List.mem_of_getElem? (i := 31) rfl)) rfl, (bw (t_1 _ (List.mem_of_getElem? (i := 12) rfl)) rfl), by decide +kernel, by decide +kernel, by decide +kernel⟩
theorem mv_X7_readProduct : MLv yX7_readProduct := ⟨(bw (t_5 _ (List.mem_of_getElem? (i := 30) rfl)) rfl), (bw (List.mem_append_left tables_1 (List.mem_of_getElem? (l := k2_sels lw_privs) (i := 18) rfl)) rfl)⟩
theorem ml_X7_readSetting : MLc yX7_readSetting cX7_readSetting 2 none 1 := ⟨bw (t_5 _ (List.mem_of_getElem? (i := 63) rfl)) rfl, (bw (t_1 _ (List.mem_of_getElem? (i := 12) rfl)) rfl), by decide +kernel, by decide +kernel, by decide +kernel⟩
theorem mv_X7_readSetting : MLv yX7_readSetting := ⟨(bw (t_5 _ (List.mem_of_getElem? (i := 62) rfl)) rfl), (bw (List.mem_append_left tables_1 (List.mem_of_getElem? (l := k2_sels lw_privs) (i := 22) rfl)) rfl)⟩
theorem ml_X7_readSum : MLc yX7_readSum cX7_readSum 4 none 1 := ⟨bw (t_5 _ (List.mem_of_getElem? (i := 27) rfl)) rfl, (bw (t_1 _ (List.mem_of_getElem? (i := 12) rfl)) rfl), by decide +kernel, by decide +kernel, by decide +kernel⟩
theorem mv_X7_readSum : MLv yX7_readSum := ⟨(bw (t_5 _ (List.mem_of_getElem? (i := 26) rfl)) rfl), (bw (List.mem_append_left tables_1 (List.mem_of_getElem? (l := k2_sels lw_privs) (i := 17) rfl)) rfl)⟩
theorem ml_X7_refuse : MLc yX7_refuse cX7_refuse 2 none 1 := ⟨bw (t_5 _ (List.mem_of_getElem? (i := 2) rfl)) rfl, (bw (t_1 _ (List.mem_of_getElem? (i := 12) rfl)) rfl), by decide +kernel, by decide +kernel, by decide +kernel⟩
theorem mv_X7_refuse : MLv yX7_refuse := ⟨(bw (t_5 _ (List.mem_of_getElem? (i := 1) rfl)) rfl), (bw (List.mem_append_left tables_1 (List.mem_of_getElem? (l := k2_sels lw_privs) (i := 12) rfl)) rfl)⟩
theorem ml_X7_takeNumber : MLc yX7_takeNumber cX7_takeNumber 4 (some .int) 2 := ⟨bw (t_5 _ (List.mem_of_getElem? (i := 40) rfl)) rfl, (bw (t_1 _ (List.mem_of_getElem? (i := 12) rfl)) rfl), by decide +kernel, by decide +kernel, by decide +kernel⟩
theorem mv_X7_takeNumber : MLv yX7_takeNumber := ⟨(bw (t_5 _ (List.mem_of_getElem? (i := 39) rfl)) rfl), (bw (List.mem_append_left tables_1 (List.mem_of_getElem? (l := k2_sels lw_privs) (i := 20) rfl)) rfl)⟩
theorem ml_X7_takeSign : MLc yX7_takeSign cX7_takeSign 2 none 1 := ⟨bw (t_5 _ (List.mem_of_getElem? (i := 49) rfl)) rfl, (bw (t_1 _ (List.mem_of_getElem? (i := 12) rfl)) rfl), by decide +kernel, by decide +kernel, by decide +kernel⟩
theorem mv_X7_takeSign : MLv yX7_takeSign := ⟨(bw (t_5 _ (List.mem_of_getElem? (i := 48) rfl)) rfl), (bw (List.mem_append_left tables_1 (List.mem_of_getElem? (l := k2_sels lw_privs) (i := 21) rfl)) rfl)⟩
theorem ml_X7_wordAmong : MLc yX7_wordAmong cX7_wordAmong 5 (some .int) 1 := ⟨bw (t_4 _ (List.mem_of_getElem? (i := 213) rfl)) rfl, (bw (t_1 _ (List.mem_of_getElem? (i := 12) rfl)) rfl), by decide +kernel, by decide +kernel, by decide +kernel⟩
theorem mv_X7_wordAmong : MLv yX7_wordAmong := ⟨(bw (t_4 _ (List.mem_of_getElem? (i := 212) rfl)) rfl), (bw (List.mem_append_left tables_1 (List.mem_of_getElem? (l := k2_sels lw_privs) (i := 10) rfl)) rfl)⟩
theorem ml_X8_init : MLc yX8_init cX8_init 3 none 2 := ⟨bw (t_1 _ (List.mem_of_getElem? (i := 103) rfl)) rfl, (bw (t_1 _ (List.mem_of_getElem? (i := 5) rfl)) rfl), by decide +kernel, by decide +kernel, by decide +kernel⟩
theorem mi_X8_init : Cond.instanceMethod yX8_init ∈ BW ∧ yX8_init.name = "<init>" := ⟨(bw (t_1 _ (List.mem_of_getElem? (i := 102) rfl)) rfl), rfl⟩
theorem ml_X9_init : MLc yX9_init cX9_init 1 none 0 := ⟨bw (t_1 _ (List.mem_of_getElem? (i := 139) rfl)) rfl, (bw (t_1 _ (List.mem_of_getElem? (i := 7) rfl)) rfl), by decide +kernel, by decide +kernel, by decide +kernel⟩
theorem mi_X9_init : Cond.instanceMethod yX9_init ∈ BW ∧ yX9_init.name = "<init>" := ⟨(bw (t_1 _ (List.mem_of_getElem? (i := 138) rfl)) rfl), rfl⟩
theorem ml_X9_isKnownOn : MLc yX9_isKnownOn cX9_isKnownOn 2 (some .boolean) 1 := ⟨bw (t_4 _ (List.mem_of_getElem? (i := 36) rfl)) rfl, (bw (t_1 _ (List.mem_of_getElem? (i := 7) rfl)) rfl), by decide +kernel, by decide +kernel, by decide +kernel⟩
theorem lk_L_82 : Cond.methodLink RL 82 yX11_again ∈ BW := (bw (t_6 _ (List.mem_of_getElem? (i := 49) rfl)) rfl)
theorem lk_L_91 : Cond.methodLink RL 91 yX11_attempt ∈ BW := (bw (t_6 _ (List.mem_of_getElem? (i := 89) rfl)) rfl)
theorem lk_L_51 : Cond.methodLink RL 51 yX11_back ∈ BW := (bw (t_4 _ (List.mem_of_getElem? (i := 65) rfl)) rfl)
theorem lk_L_55 : Cond.methodLink RL 55 yX11_claim ∈ BW := (bw (t_4 _ (List.mem_of_getElem? (i := 79) rfl)) rfl)
theorem lk_L_98 : Cond.methodLink RL 98 yX11_count ∈ BW := (bw (t_6 _ (List.mem_of_getElem? (i := 113) rfl)) rfl)
theorem lk_L_36 : Cond.methodLink RL 36 yX11_death ∈ BW := (bw (t_4 _ (List.mem_of_getElem? (i := 5) rfl)) rfl)
theorem lk_L_30 : Cond.methodLink RL 30 yX11_evenings ∈ BW := (bw (t_3 _ (List.mem_of_getElem? (i := 222) rfl)) rfl)
theorem lk_L_47 : Cond.methodLink RL 47 yX11_fact ∈ BW := (bw (t_4 _ (List.mem_of_getElem? (i := 52) rfl)) rfl)
theorem lk_L_68 : Cond.methodLink RL 68 yX11_gets ∈ BW := (bw (t_5 _ (List.mem_of_getElem? (i := 219) rfl)) rfl)
theorem lk_L_65 : Cond.methodLink RL 65 yX11_has ∈ BW := (bw (t_5 _ (List.mem_of_getElem? (i := 212) rfl)) rfl)
theorem lk_L_39 : Cond.methodLink RL 39 yX11_heir ∈ BW := (bw (t_4 _ (List.mem_of_getElem? (i := 23) rfl)) rfl)
theorem lk_L_88 : Cond.methodLink RL 88 yX11_hidden ∈ BW := (bw (t_6 _ (List.mem_of_getElem? (i := 73) rfl)) rfl)
theorem lk_L_23 : Cond.methodLink RL 23 yX11_joins ∈ BW := (bw (t_3 _ (List.mem_of_getElem? (i := 186) rfl)) rfl)
theorem lk_L_59 : Cond.methodLink RL 59 yX11_law ∈ BW := (bw (t_4 _ (List.mem_of_getElem? (i := 99) rfl)) rfl)
theorem nl_L_8 : Cond.classLink RL 8 RX11 ∈ BW := (bw (t_1 _ (List.mem_of_getElem? (i := 25) rfl)) rfl)
theorem lk_L_101 : Cond.methodLink RL 101 yX11_init ∈ BW := (bw (t_1 _ (List.mem_of_getElem? (i := 27) rfl)) rfl)
theorem nl_L_102 : Cond.classLink RL 102 RX12 ∈ BW := (bw (t_6 _ (List.mem_of_getElem? (i := 117) rfl)) rfl)
theorem lk_L_104 : Cond.methodLink RL 104 yX12_init ∈ BW := (bw (t_6 _ (List.mem_of_getElem? (i := 119) rfl)) rfl)
theorem lk_L_105 : Cond.methodLink RL 105 yX11_land ∈ BW := (bw (t_3 _ (List.mem_of_getElem? (i := 50) rfl)) rfl)
theorem lk_L_109 : Cond.methodLink RL 109 yX12_land ∈ BW := (bw (t_7 _ (List.mem_of_getElem? (i := 192) rfl)) rfl)
theorem lk_L_110 : Cond.methodLink RL 110 yL_rate ∈ BW := (bw (t_3 _ (List.mem_of_getElem? (i := 66) rfl)) rfl)
theorem lk_L_115 : Cond.methodLink RL 115 yX12_rate ∈ BW := (bw (t_7 _ (List.mem_of_getElem? (i := 196) rfl)) rfl)
theorem lk_L_116 : Cond.methodLink RL 116 yX12_thrown ∈ BW := (bw (t_7 _ (List.mem_of_getElem? (i := 188) rfl)) rfl)
theorem lk_L_119 : Cond.methodLink RL 119 yL_person ∈ BW := (bw (t_3 _ (List.mem_of_getElem? (i := 155) rfl)) rfl)
theorem lk_L_122 : Cond.methodLink RL 122 yX12_person ∈ BW := (bw (t_7 _ (List.mem_of_getElem? (i := 213) rfl)) rfl)
theorem lk_L_123 : Cond.methodLink RL 123 yL_work ∈ BW := (bw (t_3 _ (List.mem_of_getElem? (i := 164) rfl)) rfl)
theorem lk_L_126 : Cond.methodLink RL 126 yX12_work ∈ BW := (bw (t_7 _ (List.mem_of_getElem? (i := 217) rfl)) rfl)
theorem lk_L_127 : Cond.methodLink RL 127 yL_joins ∈ BW := (bw (t_3 _ (List.mem_of_getElem? (i := 183) rfl)) rfl)
theorem lk_L_129 : Cond.methodLink RL 129 yX12_joins ∈ BW := (bw (t_7 _ (List.mem_of_getElem? (i := 226) rfl)) rfl)
theorem lk_L_130 : Cond.methodLink RL 130 yL_society ∈ BW := (bw (t_3 _ (List.mem_of_getElem? (i := 209) rfl)) rfl)
theorem lk_L_132 : Cond.methodLink RL 132 yX12_society ∈ BW := (bw (t_7 _ (List.mem_of_getElem? (i := 238) rfl)) rfl)
theorem lk_L_133 : Cond.methodLink RL 133 yL_evenings ∈ BW := (bw (t_3 _ (List.mem_of_getElem? (i := 218) rfl)) rfl)
theorem lk_L_136 : Cond.methodLink RL 136 yX12_evenings ∈ BW := (bw (t_8 _ (List.mem_of_getElem? (i := 2) rfl)) rfl)
theorem lk_L_137 : Cond.methodLink RL 137 yL_death ∈ BW := (bw (t_4 _ (List.mem_of_getElem? (i := 2) rfl)) rfl)
theorem lk_L_139 : Cond.methodLink RL 139 yX12_death ∈ BW := (bw (t_8 _ (List.mem_of_getElem? (i := 6) rfl)) rfl)
theorem lk_L_140 : Cond.methodLink RL 140 yL_heir ∈ BW := (bw (t_4 _ (List.mem_of_getElem? (i := 20) rfl)) rfl)
theorem lk_L_143 : Cond.methodLink RL 143 yX12_heir ∈ BW := (bw (t_8 _ (List.mem_of_getElem? (i := 14) rfl)) rfl)
theorem lk_L_144 : Cond.methodLink RL 144 yL_sale ∈ BW := (bw (t_4 _ (List.mem_of_getElem? (i := 41) rfl)) rfl)
theorem lk_L_147 : Cond.methodLink RL 147 yX12_sale ∈ BW := (bw (t_8 _ (List.mem_of_getElem? (i := 22) rfl)) rfl)
theorem lk_L_148 : Cond.methodLink RL 148 yL_fact ∈ BW := (bw (t_4 _ (List.mem_of_getElem? (i := 49) rfl)) rfl)
theorem lk_L_151 : Cond.methodLink RL 151 yX12_fact ∈ BW := (bw (t_8 _ (List.mem_of_getElem? (i := 27) rfl)) rfl)
theorem lk_L_152 : Cond.methodLink RL 152 yL_back ∈ BW := (bw (t_4 _ (List.mem_of_getElem? (i := 62) rfl)) rfl)
theorem lk_L_155 : Cond.methodLink RL 155 yX12_back ∈ BW := (bw (t_8 _ (List.mem_of_getElem? (i := 35) rfl)) rfl)
theorem lk_L_156 : Cond.methodLink RL 156 yL_claim ∈ BW := (bw (t_4 _ (List.mem_of_getElem? (i := 76) rfl)) rfl)
theorem lk_L_158 : Cond.methodLink RL 158 yX12_claim ∈ BW := (bw (t_8 _ (List.mem_of_getElem? (i := 39) rfl)) rfl)
theorem lk_L_159 : Cond.methodLink RL 159 yX11_feed ∈ BW := (bw (t_3 _ (List.mem_of_getElem? (i := 54) rfl)) rfl)
theorem lk_L_162 : Cond.methodLink RL 162 yX12_feed ∈ BW := (bw (t_8 _ (List.mem_of_getElem? (i := 47) rfl)) rfl)
theorem lk_L_163 : Cond.methodLink RL 163 yL_law ∈ BW := (bw (t_4 _ (List.mem_of_getElem? (i := 96) rfl)) rfl)
theorem lk_L_165 : Cond.methodLink RL 165 yX12_law ∈ BW := (bw (t_8 _ (List.mem_of_getElem? (i := 55) rfl)) rfl)
theorem lk_L_166 : Cond.methodLink RL 166 yX11_fault ∈ BW := (bw (t_3 _ (List.mem_of_getElem? (i := 62) rfl)) rfl)
theorem lk_L_169 : Cond.methodLink RL 169 yX12_fault ∈ BW := (bw (t_8 _ (List.mem_of_getElem? (i := 143) rfl)) rfl)
theorem lk_L_170 : Cond.methodLink RL 170 yL_sold ∈ BW := (bw (t_5 _ (List.mem_of_getElem? (i := 68) rfl)) rfl)
theorem lk_L_172 : Cond.methodLink RL 172 yX12_sold ∈ BW := (bw (t_8 _ (List.mem_of_getElem? (i := 147) rfl)) rfl)
theorem lk_L_173 : Cond.methodLink RL 173 yL_has ∈ BW := (bw (t_5 _ (List.mem_of_getElem? (i := 209) rfl)) rfl)
theorem lk_L_175 : Cond.methodLink RL 175 yX12_has ∈ BW := (bw (t_8 _ (List.mem_of_getElem? (i := 212) rfl)) rfl)
theorem lk_L_176 : Cond.methodLink RL 176 yL_gets ∈ BW := (bw (t_5 _ (List.mem_of_getElem? (i := 216) rfl)) rfl)
theorem lk_L_178 : Cond.methodLink RL 178 yX12_gets ∈ BW := (bw (t_8 _ (List.mem_of_getElem? (i := 216) rfl)) rfl)
theorem lk_L_179 : Cond.methodLink RL 179 yL_owes ∈ BW := (bw (t_5 _ (List.mem_of_getElem? (i := 232) rfl)) rfl)
theorem lk_L_181 : Cond.methodLink RL 181 yX12_owes ∈ BW := (bw (t_8 _ (List.mem_of_getElem? (i := 228) rfl)) rfl)
theorem lk_L_182 : Cond.methodLink RL 182 yL_net ∈ BW := (bw (t_6 _ (List.mem_of_getElem? (i := 21) rfl)) rfl)
theorem lk_L_184 : Cond.methodLink RL 184 yX12_net ∈ BW := (bw (t_8 _ (List.mem_of_getElem? (i := 236) rfl)) rfl)
theorem lk_L_185 : Cond.methodLink RL 185 yL_payments ∈ BW := (bw (t_6 _ (List.mem_of_getElem? (i := 33) rfl)) rfl)
theorem lk_L_187 : Cond.methodLink RL 187 yX12_payments ∈ BW := (bw (t_9 _ (List.mem_of_getElem? (i := 4) rfl)) rfl)
theorem lk_L_188 : Cond.methodLink RL 188 yL_again ∈ BW := (bw (t_6 _ (List.mem_of_getElem? (i := 46) rfl)) rfl)
theorem lk_L_190 : Cond.methodLink RL 190 yX12_again ∈ BW := (bw (t_9 _ (List.mem_of_getElem? (i := 12) rfl)) rfl)
theorem lk_L_191 : Cond.methodLink RL 191 yL_with ∈ BW := (bw (t_6 _ (List.mem_of_getElem? (i := 61) rfl)) rfl)
theorem lk_L_193 : Cond.methodLink RL 193 yX12_with ∈ BW := (bw (t_9 _ (List.mem_of_getElem? (i := 19) rfl)) rfl)
theorem lk_L_194 : Cond.methodLink RL 194 yL_hidden ∈ BW := (bw (t_6 _ (List.mem_of_getElem? (i := 70) rfl)) rfl)
theorem lk_L_196 : Cond.methodLink RL 196 yX12_hidden ∈ BW := (bw (t_9 _ (List.mem_of_getElem? (i := 31) rfl)) rfl)
theorem lk_L_197 : Cond.methodLink RL 197 yL_attempt ∈ BW := (bw (t_6 _ (List.mem_of_getElem? (i := 86) rfl)) rfl)
theorem lk_L_199 : Cond.methodLink RL 199 yX12_attempt ∈ BW := (bw (t_9 _ (List.mem_of_getElem? (i := 35) rfl)) rfl)
theorem lk_L_200 : Cond.methodLink RL 200 yL_more ∈ BW := (bw (t_6 _ (List.mem_of_getElem? (i := 103) rfl)) rfl)
theorem lk_L_202 : Cond.methodLink RL 202 yX12_more ∈ BW := (bw (t_9 _ (List.mem_of_getElem? (i := 39) rfl)) rfl)
theorem lk_L_203 : Cond.methodLink RL 203 yL_count ∈ BW := (bw (t_6 _ (List.mem_of_getElem? (i := 110) rfl)) rfl)
theorem lk_L_205 : Cond.methodLink RL 205 yX12_count ∈ BW := (bw (t_9 _ (List.mem_of_getElem? (i := 43) rfl)) rfl)
theorem lk_L_94 : Cond.methodLink RL 94 yX11_more ∈ BW := (bw (t_6 _ (List.mem_of_getElem? (i := 106) rfl)) rfl)
theorem lk_L_76 : Cond.methodLink RL 76 yX11_net ∈ BW := (bw (t_6 _ (List.mem_of_getElem? (i := 24) rfl)) rfl)
theorem lk_L_72 : Cond.methodLink RL 72 yX11_owes ∈ BW := (bw (t_5 _ (List.mem_of_getElem? (i := 235) rfl)) rfl)
theorem lk_L_79 : Cond.methodLink RL 79 yX11_payments ∈ BW := (bw (t_6 _ (List.mem_of_getElem? (i := 36) rfl)) rfl)
theorem lk_L_15 : Cond.methodLink RL 15 yX11_person ∈ BW := (bw (t_3 _ (List.mem_of_getElem? (i := 158) rfl)) rfl)
theorem lk_L_7 : Cond.methodLink RL 7 yX11_rate ∈ BW := (bw (t_3 _ (List.mem_of_getElem? (i := 70) rfl)) rfl)
theorem lk_L_43 : Cond.methodLink RL 43 yX11_sale ∈ BW := (bw (t_4 _ (List.mem_of_getElem? (i := 44) rfl)) rfl)
theorem lk_L_27 : Cond.methodLink RL 27 yX11_society ∈ BW := (bw (t_3 _ (List.mem_of_getElem? (i := 212) rfl)) rfl)
theorem lk_L_62 : Cond.methodLink RL 62 yX11_sold ∈ BW := (bw (t_5 _ (List.mem_of_getElem? (i := 71) rfl)) rfl)
theorem lk_L_85 : Cond.methodLink RL 85 yX11_with ∈ BW := (bw (t_6 _ (List.mem_of_getElem? (i := 64) rfl)) rfl)
theorem lk_L_19 : Cond.methodLink RL 19 yX11_work ∈ BW := (bw (t_3 _ (List.mem_of_getElem? (i := 167) rfl)) rfl)
theorem lk_X0_154 : Cond.methodLink RX0 154 yX10_isBy ∈ BW := (bw (t_5 _ (List.mem_of_getElem? (i := 114) rfl)) rfl)
theorem lk_X0_186 : Cond.methodLink RX0 186 yX4_isDue ∈ BW := (bw (t_5 _ (List.mem_of_getElem? (i := 137) rfl)) rfl)
theorem lk_X0_190 : Cond.methodLink RX0 190 yX4_partOf ∈ BW := (bw (t_5 _ (List.mem_of_getElem? (i := 154) rfl)) rfl)
theorem lk_X0_194 : Cond.methodLink RX0 194 yX10_weightOf ∈ BW := (bw (t_5 _ (List.mem_of_getElem? (i := 164) rfl)) rfl)
theorem lk_X0_197 : Cond.methodLink RX0 197 yX0_statusOf ∈ BW := (bw (t_5 _ (List.mem_of_getElem? (i := 165) rfl)) rfl)
theorem lk_X0_164 : Cond.methodLink RX0 164 yX1_personAt ∈ BW := (bw (t_5 _ (List.mem_of_getElem? (i := 120) rfl)) rfl)
theorem lk_X0_68 : Cond.methodLink RX0 68 yX1_factAt ∈ BW := (bw (t_2 _ (List.mem_of_getElem? (i := 116) rfl)) rfl)
theorem lk_X0_95 : Cond.methodLink RX0 95 ⟨"SalePart$Fact", "isKnownOn", "(I)Z"⟩ ∈ BW := (bw (t_5 _ (List.mem_of_getElem? (i := 91) rfl)) rfl)
theorem lk_X0_211 : Cond.methodLink RX0 211 yX0_isDead ∈ BW := (bw (t_5 _ (List.mem_of_getElem? (i := 177) rfl)) rfl)
theorem lk_X0_231 : Cond.methodLink RX0 231 yX1_societyAt ∈ BW := (bw (t_5 _ (List.mem_of_getElem? (i := 197) rfl)) rfl)
theorem kc_X0_146 : Cond.constantLong RX0 146 (1000) ∈ BW := (bw (t_5 _ (List.mem_of_getElem? (i := 109) rfl)) rfl)
theorem lk_X0_240 : Cond.methodLink RX0 240 yX1_claimOf ∈ BW := (bw (t_5 _ (List.mem_of_getElem? (i := 201) rfl)) rfl)
theorem lk_X0_243 : Cond.methodLink RX0 243 yX1_claimAt ∈ BW := (bw (t_5 _ (List.mem_of_getElem? (i := 202) rfl)) rfl)
theorem lk_X0_3 : Cond.methodLink RX0 3 Lib.objectInit ∈ BW := (bw (t_2 _ (List.mem_of_getElem? (i := 115) rfl)) rfl)
theorem lk_X0_78 : Cond.methodLink RX0 78 yX1_workAt ∈ BW := (bw (t_2 _ (List.mem_of_getElem? (i := 120) rfl)) rfl)
theorem lk_X0_142 : Cond.methodLink RX0 142 yX1_rateFor ∈ BW := (bw (t_5 _ (List.mem_of_getElem? (i := 101) rfl)) rfl)
theorem lk_X0_148 : Cond.methodLink RX0 148 yX3_isHandOf ∈ BW := (bw (t_5 _ (List.mem_of_getElem? (i := 110) rfl)) rfl)
theorem kc_X0_159 : Cond.constant RX0 159 (99999) ∈ BW := (bw (t_5 _ (List.mem_of_getElem? (i := 115) rfl)) rfl)
theorem lk_X0_160 : Cond.methodLink RX0 160 yX0_fillValues ∈ BW := (bw (t_5 _ (List.mem_of_getElem? (i := 116) rfl)) rfl)
theorem kc_X0_86 : Cond.constant RX0 86 (1000000) ∈ BW := (bw (t_5 _ (List.mem_of_getElem? (i := 90) rfl)) rfl)
theorem lk_X0_214 : Cond.methodLink RX0 214 yX0_goOneRound ∈ BW := (bw (t_5 _ (List.mem_of_getElem? (i := 181) rfl)) rfl)
theorem lk_X0_224 : Cond.methodLink RX0 224 yX1_mandateOf ∈ BW := (bw (t_5 _ (List.mem_of_getElem? (i := 189) rfl)) rfl)
theorem lk_X0_227 : Cond.methodLink RX0 227 yX0_gottenBy ∈ BW := (bw (t_5 _ (List.mem_of_getElem? (i := 193) rfl)) rfl)
theorem lk_X0_112 : Cond.methodLink RX0 112 yX0_look ∈ BW := (bw (t_5 _ (List.mem_of_getElem? (i := 97) rfl)) rfl)
theorem lk_X0_119 : Cond.methodLink RX0 119 yX1_lawFor ∈ BW := (bw (t_5 _ (List.mem_of_getElem? (i := 124) rfl)) rfl)
theorem lk_X0_123 : Cond.methodLink RX0 123 yX1_lawAt ∈ BW := (bw (t_5 _ (List.mem_of_getElem? (i := 132) rfl)) rfl)
theorem lk_X0_127 : Cond.methodLink RX0 127 yX0_apply ∈ BW := (bw (t_5 _ (List.mem_of_getElem? (i := 133) rfl)) rfl)
theorem lk_X0_131 : Cond.methodLink RX0 131 yX0_passOn ∈ BW := (bw (t_5 _ (List.mem_of_getElem? (i := 173) rfl)) rfl)
theorem lk_X0_134 : Cond.methodLink RX0 134 yX0_payOut ∈ BW := (bw (t_5 _ (List.mem_of_getElem? (i := 185) rfl)) rfl)
theorem lk_X0_208 : Cond.methodLink RX0 208 yX4_isFor ∈ BW := (bw (t_5 _ (List.mem_of_getElem? (i := 169) rfl)) rfl)
theorem lk_X1_93 : Cond.methodLink RX1 93 yX1_hasAllFacts ∈ BW := (bw (t_4 _ (List.mem_of_getElem? (i := 19) rfl)) rfl)
theorem lk_X1_124 : Cond.methodLink RX1 124 yX1_claimAt ∈ BW := (bw (t_4 _ (List.mem_of_getElem? (i := 92) rfl)) rfl)
theorem lk_X1_147 : Cond.methodLink RX1 147 yX1_societyAt ∈ BW := (bw (t_5 _ (List.mem_of_getElem? (i := 207) rfl)) rfl)
theorem lk_X1_97 : Cond.methodLink RX1 97 yX1_factAt ∈ BW := (bw (t_3 _ (List.mem_of_getElem? (i := 208) rfl)) rfl)
theorem lk_X1_158 : Cond.methodLink RX1 158 yX3_isHandOf ∈ BW := (bw (t_6 _ (List.mem_of_getElem? (i := 81) rfl)) rfl)
theorem lk_X1_110 : Cond.methodLink RX1 110 ⟨"SalePart$Fact", "isKnownOn", "(I)Z"⟩ ∈ BW := (bw (t_4 _ (List.mem_of_getElem? (i := 31) rfl)) rfl)
theorem lk_X1_3 : Cond.methodLink RX1 3 Lib.objectInit ∈ BW := (bw (t_1 _ (List.mem_of_getElem? (i := 38) rfl)) rfl)
theorem nl_X1_18 : Cond.classLink RX1 18 RX5 ∈ BW := (bw (t_1 _ (List.mem_of_getElem? (i := 39) rfl)) rfl)
theorem nl_X1_27 : Cond.classLink RX1 27 RX10 ∈ BW := (bw (t_1 _ (List.mem_of_getElem? (i := 41) rfl)) rfl)
theorem nl_X1_36 : Cond.classLink RX1 36 RX8 ∈ BW := (bw (t_1 _ (List.mem_of_getElem? (i := 43) rfl)) rfl)
theorem nl_X1_45 : Cond.classLink RX1 45 RX6 ∈ BW := (bw (t_1 _ (List.mem_of_getElem? (i := 45) rfl)) rfl)
theorem nl_X1_54 : Cond.classLink RX1 54 RX3 ∈ BW := (bw (t_1 _ (List.mem_of_getElem? (i := 47) rfl)) rfl)
theorem nl_X1_69 : Cond.classLink RX1 69 RX4 ∈ BW := (bw (t_1 _ (List.mem_of_getElem? (i := 49) rfl)) rfl)
theorem lk_X1_78 : Cond.methodLink RX1 78 yX5_init ∈ BW := (bw (t_1 _ (List.mem_of_getElem? (i := 52) rfl)) rfl)
theorem lk_X1_81 : Cond.methodLink RX1 81 yX10_init ∈ BW := (bw (t_1 _ (List.mem_of_getElem? (i := 66) rfl)) rfl)
theorem lk_X1_84 : Cond.methodLink RX1 84 yX8_init ∈ BW := (bw (t_1 _ (List.mem_of_getElem? (i := 101) rfl)) rfl)
theorem lk_X1_85 : Cond.methodLink RX1 85 yX6_init ∈ BW := (bw (t_1 _ (List.mem_of_getElem? (i := 115) rfl)) rfl)
theorem kc_X1_88 : Cond.constant RX1 88 (1000000) ∈ BW := (bw (t_1 _ (List.mem_of_getElem? (i := 133) rfl)) rfl)
theorem lk_X1_89 : Cond.methodLink RX1 89 yX3_init ∈ BW := (bw (t_1 _ (List.mem_of_getElem? (i := 134) rfl)) rfl)
theorem lk_X1_92 : Cond.methodLink RX1 92 yX4_init ∈ BW := (bw (t_1 _ (List.mem_of_getElem? (i := 218) rfl)) rfl)
theorem lk_X1_140 : Cond.methodLink RX1 140 yX1_lawAt ∈ BW := (bw (t_5 _ (List.mem_of_getElem? (i := 128) rfl)) rfl)
theorem lk_X1_146 : Cond.methodLink RX1 146 ⟨"SalePart$Law", "isKnownOn", "(I)Z"⟩ ∈ BW := (bw (t_5 _ (List.mem_of_getElem? (i := 129) rfl)) rfl)
theorem lk_X1_127 : Cond.methodLink RX1 127 yX1_rateAt ∈ BW := (bw (t_5 _ (List.mem_of_getElem? (i := 105) rfl)) rfl)
theorem lk_X10_3 : Cond.methodLink RX10 3 Lib.objectInit ∈ BW := (bw (t_1 _ (List.mem_of_getElem? (i := 69) rfl)) rfl)
theorem lk_X10_37 : Cond.methodLink RX10 37 yX10_weightOf ∈ BW := (bw (t_3 _ (List.mem_of_getElem? (i := 200) rfl)) rfl)
theorem lk_X10_41 : Cond.methodLink RX10 41 Lib.MathLoose.abs_long.x ∈ BW := (bw (t_6 _ (List.mem_of_getElem? (i := 58) rfl)) rfl)
theorem nl_X11_151 : Cond.classLink RX11 151 "java/lang/IllegalArgumentException" ∈ BW := (bw (t_3 _ (List.mem_of_getElem? (i := 226) rfl)) rfl)
theorem lk_X11_125 : Cond.methodLink RX11 125 yX1_workAt ∈ BW := (bw (t_3 _ (List.mem_of_getElem? (i := 195) rfl)) rfl)
theorem lk_X11_333 : Cond.methodLink RX11 333 yX10_mayBe ∈ BW := (bw (t_6 _ (List.mem_of_getElem? (i := 54) rfl)) rfl)
theorem lk_X11_244 : Cond.methodLink RX11 244 yX11_readTape ∈ BW := (bw (t_4 _ (List.mem_of_getElem? (i := 103) rfl)) rfl)
theorem lk_X11_357 : Cond.methodLink RX11 357 yX11_tryDraft ∈ BW := (bw (t_6 _ (List.mem_of_getElem? (i := 93) rfl)) rfl)
theorem lk_X11_78 : Cond.methodLink RX11 78 yX11_isWithin ∈ BW := (bw (t_3 _ (List.mem_of_getElem? (i := 78) rfl)) rfl)
theorem nl_X11_198 : Cond.classLink RX11 198 "java/util/NoSuchElementException" ∈ BW := (bw (t_3 _ (List.mem_of_getElem? (i := 81) rfl)) rfl)
theorem lk_X11_214 : Cond.methodLink RX11 214 yX1_lawAt ∈ BW := (bw (t_4 _ (List.mem_of_getElem? (i := 70) rfl)) rfl)
theorem lk_X11_218 : Cond.methodLink RX11 218 yX1_factAt ∈ BW := (bw (t_4 _ (List.mem_of_getElem? (i := 74) rfl)) rfl)
theorem kc_X11_227 : Cond.constant RX11 227 (1000000) ∈ BW := (bw (t_4 _ (List.mem_of_getElem? (i := 75) rfl)) rfl)
theorem lk_X11_103 : Cond.methodLink RX11 103 yX11_needPerson ∈ BW := (bw (t_3 _ (List.mem_of_getElem? (i := 171) rfl)) rfl)
theorem lk_X11_228 : Cond.methodLink RX11 228 yX11_needSale ∈ BW := (bw (t_4 _ (List.mem_of_getElem? (i := 83) rfl)) rfl)
theorem lk_X11_234 : Cond.methodLink RX11 234 yX1_claimOf ∈ BW := (bw (t_4 _ (List.mem_of_getElem? (i := 88) rfl)) rfl)
theorem nl_X11_162 : Cond.classLink RX11 162 RX3 ∈ BW := (bw (t_4 _ (List.mem_of_getElem? (i := 13) rfl)) rfl)
theorem lk_X11_164 : Cond.methodLink RX11 164 yX3_init ∈ BW := (bw (t_4 _ (List.mem_of_getElem? (i := 14) rfl)) rfl)
theorem lk_X11_255 : Cond.methodLink RX11 255 yX11_needWhat ∈ BW := (bw (t_5 _ (List.mem_of_getElem? (i := 75) rfl)) rfl)
theorem lk_X11_158 : Cond.methodLink RX11 158 yX1_hasAllFacts ∈ BW := (bw (t_4 _ (List.mem_of_getElem? (i := 9) rfl)) rfl)
theorem lk_X11_73 : Cond.methodLink RX11 73 yX11_isDay ∈ BW := (bw (t_3 _ (List.mem_of_getElem? (i := 148) rfl)) rfl)
theorem lk_X11_170 : Cond.methodLink RX11 170 yX1_addFact ∈ BW := (bw (t_4 _ (List.mem_of_getElem? (i := 15) rfl)) rfl)
theorem lk_X11_203 : Cond.methodLink RX11 203 yX11_needSociety ∈ BW := (bw (t_4 _ (List.mem_of_getElem? (i := 57) rfl)) rfl)
theorem lk_X11_122 : Cond.methodLink RX11 122 yX11_needWork ∈ BW := (bw (t_3 _ (List.mem_of_getElem? (i := 190) rfl)) rfl)
theorem lk_X11_241 : Cond.methodLink RX11 241 yX11_putBytes ∈ BW := (bw (t_3 _ (List.mem_of_getElem? (i := 58) rfl)) rfl)
theorem lk_X11_310 : Cond.methodLink RX11 310 yX11_needYear ∈ BW := (bw (t_5 _ (List.mem_of_getElem? (i := 223) rfl)) rfl)
theorem lk_X11_258 : Cond.methodLink RX11 258 yX11_needEvening ∈ BW := (bw (t_5 _ (List.mem_of_getElem? (i := 80) rfl)) rfl)
theorem lk_X11_264 : Cond.methodLink RX11 264 yX0_open ∈ BW := (bw (t_5 _ (List.mem_of_getElem? (i := 86) rfl)) rfl)
theorem lk_X11_313 : Cond.methodLink RX11 313 yX3_isSaleOf ∈ BW := (bw (t_5 _ (List.mem_of_getElem? (i := 228) rfl)) rfl)
theorem lk_X11_261 : Cond.methodLink RX11 261 ⟨"SalePart$Fact", "isKnownOn", "(I)Z"⟩ ∈ BW := (bw (t_5 _ (List.mem_of_getElem? (i := 85) rfl)) rfl)
theorem lk_X11_267 : Cond.methodLink RX11 267 yX0_settle ∈ BW := (bw (t_5 _ (List.mem_of_getElem? (i := 93) rfl)) rfl)
theorem lk_X11_174 : Cond.methodLink RX11 174 yX1_inheritedOf ∈ BW := (bw (t_4 _ (List.mem_of_getElem? (i := 27) rfl)) rfl)
theorem lk_X11_178 : Cond.methodLink RX11 178 yX11_twelfths ∈ BW := (bw (t_4 _ (List.mem_of_getElem? (i := 40) rfl)) rfl)
theorem lk_X11_345 : Cond.methodLink RX11 345 yX1_handBehind ∈ BW := (bw (t_6 _ (List.mem_of_getElem? (i := 77) rfl)) rfl)
theorem lk_X11_351 : Cond.methodLink RX11 351 yX11_tellHidden ∈ BW := (bw (t_6 _ (List.mem_of_getElem? (i := 82) rfl)) rfl)
theorem lk_X11_1 : Cond.methodLink RX11 1 Lib.objectInit ∈ BW := (bw (t_1 _ (List.mem_of_getElem? (i := 30) rfl)) rfl)
theorem nl_X11_7 : Cond.classLink RX11 7 RX1 ∈ BW := (bw (t_1 _ (List.mem_of_getElem? (i := 33) rfl)) rfl)
theorem lk_X11_9 : Cond.methodLink RX11 9 yX1_init ∈ BW := (bw (t_1 _ (List.mem_of_getElem? (i := 35) rfl)) rfl)
theorem nl_X11_16 : Cond.classLink RX11 16 RX0 ∈ BW := (bw (t_2 _ (List.mem_of_getElem? (i := 110) rfl)) rfl)
theorem lk_X11_18 : Cond.methodLink RX11 18 yX0_init ∈ BW := (bw (t_2 _ (List.mem_of_getElem? (i := 112) rfl)) rfl)
theorem nl_X11_25 : Cond.classLink RX11 25 RX2 ∈ BW := (bw (t_2 _ (List.mem_of_getElem? (i := 194) rfl)) rfl)
theorem lk_X11_27 : Cond.methodLink RX11 27 yX2_init ∈ BW := (bw (t_2 _ (List.mem_of_getElem? (i := 196) rfl)) rfl)
theorem nl_X11_34 : Cond.classLink RX11 34 RX7 ∈ BW := (bw (t_2 _ (List.mem_of_getElem? (i := 217) rfl)) rfl)
theorem nl_X11_52 : Cond.classLink RX11 52 RX4 ∈ BW := (bw (t_3 _ (List.mem_of_getElem? (i := 20) rfl)) rfl)
theorem lk_X11_54 : Cond.methodLink RX11 54 yX4_init ∈ BW := (bw (t_3 _ (List.mem_of_getElem? (i := 21) rfl)) rfl)
theorem kc_X11_379 : Cond.constant RX11 379 (36499) ∈ BW := (bw (t_3 _ (List.mem_of_getElem? (i := 151) rfl)) rfl)
theorem lk_X11_132 : Cond.methodLink RX11 132 yX10_isBy ∈ BW := (bw (t_3 _ (List.mem_of_getElem? (i := 196) rfl)) rfl)
theorem lk_X11_135 : Cond.methodLink RX11 135 yX1_wasEverSold ∈ BW := (bw (t_3 _ (List.mem_of_getElem? (i := 204) rfl)) rfl)
theorem lk_X11_115 : Cond.methodLink RX11 115 yX10_addArtist ∈ BW := (bw (t_3 _ (List.mem_of_getElem? (i := 179) rfl)) rfl)
theorem lk_X11_316 : Cond.methodLink RX11 316 yX2_clear ∈ BW := (bw (t_5 _ (List.mem_of_getElem? (i := 239) rfl)) rfl)
theorem lk_X11_323 : Cond.methodLink RX11 323 yX2_netOf ∈ BW := (bw (t_6 _ (List.mem_of_getElem? (i := 28) rfl)) rfl)
theorem lk_X11_319 : Cond.methodLink RX11 319 yX2_owed ∈ BW := (bw (t_6 _ (List.mem_of_getElem? (i := 17) rfl)) rfl)
theorem lk_X11_327 : Cond.methodLink RX11 327 yX2_fewestPayments ∈ BW := (bw (t_6 _ (List.mem_of_getElem? (i := 40) rfl)) rfl)
theorem lk_X11_66 : Cond.methodLink RX11 66 yX11_needLand ∈ BW := (bw (t_3 _ (List.mem_of_getElem? (i := 74) rfl)) rfl)
theorem nl_X11_98 : Cond.classLink RX11 98 RX5 ∈ BW := (bw (t_3 _ (List.mem_of_getElem? (i := 162) rfl)) rfl)
theorem lk_X11_100 : Cond.methodLink RX11 100 yX5_init ∈ BW := (bw (t_3 _ (List.mem_of_getElem? (i := 163) rfl)) rfl)
theorem kc_X11_77 : Cond.constant RX11 77 (99999) ∈ BW := (bw (t_3 _ (List.mem_of_getElem? (i := 152) rfl)) rfl)
theorem nl_X11_86 : Cond.classLink RX11 86 RX6 ∈ BW := (bw (t_3 _ (List.mem_of_getElem? (i := 153) rfl)) rfl)
theorem lk_X11_88 : Cond.methodLink RX11 88 yX6_init ∈ BW := (bw (t_3 _ (List.mem_of_getElem? (i := 154) rfl)) rfl)
theorem lk_X11_382 : Cond.methodLink RX11 382 yX7_read ∈ BW := (bw (t_4 _ (List.mem_of_getElem? (i := 108) rfl)) rfl)
theorem kc_X11_188 : Cond.constant RX11 188 (20000000) ∈ BW := (bw (t_4 _ (List.mem_of_getElem? (i := 48) rfl)) rfl)
theorem nl_X11_145 : Cond.classLink RX11 145 RX8 ∈ BW := (bw (t_3 _ (List.mem_of_getElem? (i := 216) rfl)) rfl)
theorem lk_X11_147 : Cond.methodLink RX11 147 yX8_init ∈ BW := (bw (t_3 _ (List.mem_of_getElem? (i := 217) rfl)) rfl)
theorem lk_X11_282 : Cond.methodLink RX11 282 yX1_collectorIn ∈ BW := (bw (t_5 _ (List.mem_of_getElem? (i := 203) rfl)) rfl)
theorem lk_X11_288 : Cond.methodLink RX11 288 yX1_lawFor ∈ BW := (bw (t_5 _ (List.mem_of_getElem? (i := 208) rfl)) rfl)
theorem lk_X11_391 : Cond.methodLink RX11 391 yX0_look ∈ BW := (bw (t_6 _ (List.mem_of_getElem? (i := 97) rfl)) rfl)
theorem lk_X11_395 : Cond.methodLink RX11 395 yX0_apply ∈ BW := (bw (t_6 _ (List.mem_of_getElem? (i := 98) rfl)) rfl)
theorem lk_X11_399 : Cond.methodLink RX11 399 yX11_addShares ∈ BW := (bw (t_6 _ (List.mem_of_getElem? (i := 99) rfl)) rfl)
theorem lk_X11_339 : Cond.methodLink RX11 339 yX3_isHandOf ∈ BW := (bw (t_6 _ (List.mem_of_getElem? (i := 69) rfl)) rfl)
theorem kc_X11_106 : Cond.constant RX11 106 (65535) ∈ BW := (bw (t_3 _ (List.mem_of_getElem? (i := 176) rfl)) rfl)
theorem nl_X11_110 : Cond.classLink RX11 110 RX10 ∈ BW := (bw (t_3 _ (List.mem_of_getElem? (i := 177) rfl)) rfl)
theorem lk_X11_112 : Cond.methodLink RX11 112 yX10_init ∈ BW := (bw (t_3 _ (List.mem_of_getElem? (i := 178) rfl)) rfl)
theorem lk_X12_214 : Cond.methodLink RX12 214 yX12_right ∈ BW := (bw (t_7 _ (List.mem_of_getElem? (i := 204) rfl)) rfl)
theorem lk_X12_496 : Cond.methodLink RX12 496 yX12_isNear ∈ BW := (bw (t_9 _ (List.mem_of_getElem? (i := 16) rfl)) rfl)
theorem lk_X12_228 : Cond.methodLink RX12 228 yX12_isLand ∈ BW := (bw (t_7 _ (List.mem_of_getElem? (i := 200) rfl)) rfl)
theorem lk_X12_235 : Cond.methodLink RX12 235 yX12_isDay ∈ BW := (bw (t_7 _ (List.mem_of_getElem? (i := 208) rfl)) rfl)
theorem lk_X12_394 : Cond.methodLink RX12 394 yX12_reads ∈ BW := (bw (t_8 _ (List.mem_of_getElem? (i := 59) rfl)) rfl)
theorem lk_X12_341 : Cond.methodLink RX12 341 yX12_isGood ∈ BW := (bw (t_8 _ (List.mem_of_getElem? (i := 77) rfl)) rfl)
theorem lk_X12_474 : Cond.methodLink RX12 474 yX12_gathers ∈ BW := (bw (t_8 _ (List.mem_of_getElem? (i := 155) rfl)) rfl)
theorem lk_X12_260 : Cond.methodLink RX12 260 yX12_isKnown ∈ BW := (bw (t_8 _ (List.mem_of_getElem? (i := 18) rfl)) rfl)
theorem lk_X12_477 : Cond.methodLink RX12 477 yX12_sells ∈ BW := (bw (t_8 _ (List.mem_of_getElem? (i := 159) rfl)) rfl)
theorem lk_X12_358 : Cond.methodLink RX12 358 yX12_isSign ∈ BW := (bw (t_8 _ (List.mem_of_getElem? (i := 107) rfl)) rfl)
theorem lk_X12_345 : Cond.methodLink RX12 345 yX12_wrong ∈ BW := (bw (t_8 _ (List.mem_of_getElem? (i := 95) rfl)) rfl)
theorem lk_X12_239 : Cond.methodLink RX12 239 yX12_isPerson ∈ BW := (bw (t_7 _ (List.mem_of_getElem? (i := 221) rfl)) rfl)
theorem lk_X12_270 : Cond.methodLink RX12 270 yX12_isSale ∈ BW := (bw (t_8 _ (List.mem_of_getElem? (i := 43) rfl)) rfl)
theorem lk_X12_348 : Cond.methodLink RX12 348 yX12_knownWord ∈ BW := (bw (t_8 _ (List.mem_of_getElem? (i := 85) rfl)) rfl)
theorem lk_X12_352 : Cond.methodLink RX12 352 yX12_goes ∈ BW := (bw (t_8 _ (List.mem_of_getElem? (i := 63) rfl)) rfl)
theorem lk_X12_380 : Cond.methodLink RX12 380 yX12_expression ∈ BW := (bw (t_8 _ (List.mem_of_getElem? (i := 99) rfl)) rfl)
theorem lk_X12_383 : Cond.methodLink RX12 383 yX12_step ∈ BW := (bw (t_8 _ (List.mem_of_getElem? (i := 134) rfl)) rfl)
theorem lk_X12_386 : Cond.methodLink RX12 386 yX12_number ∈ BW := (bw (t_8 _ (List.mem_of_getElem? (i := 139) rfl)) rfl)
theorem kc_X12_390 : Cond.constant RX12 390 (99999999) ∈ BW := (bw (t_8 _ (List.mem_of_getElem? (i := 138) rfl)) rfl)
theorem lk_X12_483 : Cond.methodLink RX12 483 yX12_isOf ∈ BW := (bw (t_8 _ (List.mem_of_getElem? (i := 224) rfl)) rfl)
theorem lk_X12_256 : Cond.methodLink RX12 256 yX12_tells ∈ BW := (bw (t_8 _ (List.mem_of_getElem? (i := 10) rfl)) rfl)
theorem lk_X12_335 : Cond.methodLink RX12 335 yX12_strength ∈ BW := (bw (t_8 _ (List.mem_of_getElem? (i := 131) rfl)) rfl)
theorem lk_X12_338 : Cond.methodLink RX12 338 yX12_puts ∈ BW := (bw (t_8 _ (List.mem_of_getElem? (i := 123) rfl)) rfl)
theorem lk_X12_364 : Cond.methodLink RX12 364 yX12_begins ∈ BW := (bw (t_8 _ (List.mem_of_getElem? (i := 103) rfl)) rfl)
theorem lk_X12_370 : Cond.methodLink RX12 370 yX12_operand ∈ BW := (bw (t_8 _ (List.mem_of_getElem? (i := 111) rfl)) rfl)
theorem lk_X12_374 : Cond.methodLink RX12 374 yX12_drops ∈ BW := (bw (t_8 _ (List.mem_of_getElem? (i := 127) rfl)) rfl)
theorem lk_X12_361 : Cond.methodLink RX12 361 yX12_waitsFor ∈ BW := (bw (t_8 _ (List.mem_of_getElem? (i := 115) rfl)) rfl)
theorem lk_X12_243 : Cond.methodLink RX12 243 yX12_isWork ∈ BW := (bw (t_7 _ (List.mem_of_getElem? (i := 230) rfl)) rfl)
theorem lk_X12_264 : Cond.methodLink RX12 264 yX12_isSociety ∈ BW := (bw (t_8 _ (List.mem_of_getElem? (i := 31) rfl)) rfl)
theorem lk_X12_279 : Cond.methodLink RX12 279 yX12_lays ∈ BW := (bw (t_8 _ (List.mem_of_getElem? (i := 51) rfl)) rfl)
theorem lk_X12_480 : Cond.methodLink RX12 480 yX12_isYear ∈ BW := (bw (t_8 _ (List.mem_of_getElem? (i := 220) rfl)) rfl)
theorem lk_X12_471 : Cond.methodLink RX12 471 yX12_isEvening ∈ BW := (bw (t_8 _ (List.mem_of_getElem? (i := 151) rfl)) rfl)
theorem lk_X12_289 : Cond.methodLink RX12 289 yX12_byteAt ∈ BW := (bw (t_8 _ (List.mem_of_getElem? (i := 67) rfl)) rfl)
theorem lk_X12_309 : Cond.methodLink RX12 309 yX12_isLetter ∈ BW := (bw (t_8 _ (List.mem_of_getElem? (i := 71) rfl)) rfl)
theorem lk_X12_312 : Cond.methodLink RX12 312 yX12_isDigit ∈ BW := (bw (t_8 _ (List.mem_of_getElem? (i := 74) rfl)) rfl)
theorem lk_X12_502 : Cond.methodLink RX12 502 yX12_handles ∈ BW := (bw (t_9 _ (List.mem_of_getElem? (i := 23) rfl)) rfl)
theorem lk_X12_505 : Cond.methodLink RX12 505 yX12_behind ∈ BW := (bw (t_9 _ (List.mem_of_getElem? (i := 27) rfl)) rfl)
theorem lk_X12_1 : Cond.methodLink RX12 1 Lib.objectInit ∈ BW := (bw (t_6 _ (List.mem_of_getElem? (i := 122) rfl)) rfl)
theorem lk_X12_246 : Cond.methodLink RX12 246 yX12_isBy ∈ BW := (bw (t_7 _ (List.mem_of_getElem? (i := 234) rfl)) rfl)
theorem lk_X12_422 : Cond.methodLink RX12 422 yX12_worth ∈ BW := (bw (t_8 _ (List.mem_of_getElem? (i := 180) rfl)) rfl)
theorem kc_X12_227 : Cond.constant RX12 227 (36499) ∈ BW := (bw (t_7 _ (List.mem_of_getElem? (i := 211) rfl)) rfl)
theorem lk_X12_490 : Cond.methodLink RX12 490 yX12_netOf ∈ BW := (bw (t_9 _ (List.mem_of_getElem? (i := 0) rfl)) rfl)
theorem lk_X12_318 : Cond.methodLink RX12 318 yX12_spelled ∈ BW := (bw (t_8 _ (List.mem_of_getElem? (i := 92) rfl)) rfl)
theorem lk_X12_322 : Cond.methodLink RX12 322 yX12_known ∈ BW := (bw (t_8 _ (List.mem_of_getElem? (i := 89) rfl)) rfl)
theorem kc_X12_238 : Cond.constant RX12 238 (99999) ∈ BW := (bw (t_7 _ (List.mem_of_getElem? (i := 212) rfl)) rfl)
theorem lk_X12_487 : Cond.methodLink RX12 487 yX12_clears ∈ BW := (bw (t_8 _ (List.mem_of_getElem? (i := 232) rfl)) rfl)
theorem lk_X12_367 : Cond.methodLink RX12 367 yX12_part ∈ BW := (bw (t_8 _ (List.mem_of_getElem? (i := 119) rfl)) rfl)
theorem kc_X12_425 : Cond.constantLong RX12 425 (10000) ∈ BW := (bw (t_8 _ (List.mem_of_getElem? (i := 191) rfl)) rfl)
theorem lk_X12_465 : Cond.methodLink RX12 465 yX12_passesOn ∈ BW := (bw (t_8 _ (List.mem_of_getElem? (i := 200) rfl)) rfl)
theorem lk_X12_468 : Cond.methodLink RX12 468 yX12_isDead ∈ BW := (bw (t_8 _ (List.mem_of_getElem? (i := 204) rfl)) rfl)
theorem lk_X12_493 : Cond.methodLink RX12 493 yX12_isNothing ∈ BW := (bw (t_9 _ (List.mem_of_getElem? (i := 8) rfl)) rfl)
theorem kc_X12_431 : Cond.constantLong RX12 431 (1000) ∈ BW := (bw (t_8 _ (List.mem_of_getElem? (i := 167) rfl)) rfl)
theorem lk_X12_391 : Cond.methodLink RX12 391 yX12_clause ∈ BW := (bw (t_8 _ (List.mem_of_getElem? (i := 81) rfl)) rfl)
theorem kc_X12_263 : Cond.constant RX12 263 (20000000) ∈ BW := (bw (t_8 _ (List.mem_of_getElem? (i := 26) rfl)) rfl)
theorem lk_X12_427 : Cond.methodLink RX12 427 yX12_rateOf ∈ BW := (bw (t_8 _ (List.mem_of_getElem? (i := 163) rfl)) rfl)
theorem lk_X12_433 : Cond.methodLink RX12 433 yX12_lawOf ∈ BW := (bw (t_8 _ (List.mem_of_getElem? (i := 168) rfl)) rfl)
theorem lk_X12_436 : Cond.methodLink RX12 436 yX12_looksBack ∈ BW := (bw (t_8 _ (List.mem_of_getElem? (i := 172) rfl)) rfl)
theorem lk_X12_439 : Cond.methodLink RX12 439 yX12_isCounting ∈ BW := (bw (t_8 _ (List.mem_of_getElem? (i := 176) rfl)) rfl)
theorem lk_X12_445 : Cond.methodLink RX12 445 yX12_partOf ∈ BW := (bw (t_8 _ (List.mem_of_getElem? (i := 187) rfl)) rfl)
theorem lk_X12_456 : Cond.methodLink RX12 456 yX12_shares ∈ BW := (bw (t_8 _ (List.mem_of_getElem? (i := 192) rfl)) rfl)
theorem lk_X12_459 : Cond.methodLink RX12 459 yX12_passes ∈ BW := (bw (t_8 _ (List.mem_of_getElem? (i := 196) rfl)) rfl)
theorem lk_X12_462 : Cond.methodLink RX12 462 yX12_pays ∈ BW := (bw (t_8 _ (List.mem_of_getElem? (i := 208) rfl)) rfl)
theorem kc_X12_242 : Cond.constant RX12 242 (65535) ∈ BW := (bw (t_7 _ (List.mem_of_getElem? (i := 225) rfl)) rfl)
theorem lk_X12_414 : Cond.methodLink RX12 414 yX12_works ∈ BW := (bw (t_8 _ (List.mem_of_getElem? (i := 184) rfl)) rfl)
theorem lk_X2_72 : Cond.methodLink RX2 72 yX2_pairOf ∈ BW := (bw (t_6 _ (List.mem_of_getElem? (i := 13) rfl)) rfl)
theorem lk_X2_30 : Cond.methodLink RX2 30 yX0_open ∈ BW := (bw (t_6 _ (List.mem_of_getElem? (i := 3) rfl)) rfl)
theorem lk_X2_42 : Cond.methodLink RX2 42 yX1_factAt ∈ BW := (bw (t_6 _ (List.mem_of_getElem? (i := 4) rfl)) rfl)
theorem lk_X2_51 : Cond.methodLink RX2 51 yX1_collectorIn ∈ BW := (bw (t_6 _ (List.mem_of_getElem? (i := 5) rfl)) rfl)
theorem lk_X2_55 : Cond.methodLink RX2 55 yX3_isSaleOf ∈ BW := (bw (t_6 _ (List.mem_of_getElem? (i := 6) rfl)) rfl)
theorem lk_X2_59 : Cond.methodLink RX2 59 ⟨"SalePart$Fact", "isKnownOn", "(I)Z"⟩ ∈ BW := (bw (t_6 _ (List.mem_of_getElem? (i := 7) rfl)) rfl)
theorem lk_X2_62 : Cond.methodLink RX2 62 yX0_settle ∈ BW := (bw (t_6 _ (List.mem_of_getElem? (i := 8) rfl)) rfl)
theorem lk_X2_66 : Cond.methodLink RX2 66 yX2_addOwed ∈ BW := (bw (t_6 _ (List.mem_of_getElem? (i := 9) rfl)) rfl)
theorem lk_X2_86 : Cond.methodLink RX2 86 yX2_netOf ∈ BW := (bw (t_6 _ (List.mem_of_getElem? (i := 44) rfl)) rfl)
theorem lk_X2_90 : Cond.methodLink RX2 90 Lib.Math.max.name ∈ BW := (bw (t_6 _ (List.mem_of_getElem? (i := 45) rfl)) rfl)
theorem lk_X2_3 : Cond.methodLink RX2 3 Lib.objectInit ∈ BW := (bw (t_2 _ (List.mem_of_getElem? (i := 199) rfl)) rfl)
theorem lk_X2_83 : Cond.methodLink RX2 83 yX2_owed ∈ BW := (bw (t_6 _ (List.mem_of_getElem? (i := 32) rfl)) rfl)
theorem lk_X4_31 : Cond.methodLink RX4 31 yX4_blank ∈ BW := (bw (t_1 _ (List.mem_of_getElem? (i := 222) rfl)) rfl)
theorem lk_X4_72 : Cond.methodLink RX4 72 yX4_worth ∈ BW := (bw (t_5 _ (List.mem_of_getElem? (i := 141) rfl)) rfl)
theorem lk_X4_80 : Cond.methodLink RX4 80 yX4_truth ∈ BW := (bw (t_5 _ (List.mem_of_getElem? (i := 148) rfl)) rfl)
theorem lk_X4_58 : Cond.methodLink RX4 58 Lib.Math.min.name ∈ BW := (bw (t_5 _ (List.mem_of_getElem? (i := 158) rfl)) rfl)
theorem lk_X4_64 : Cond.methodLink RX4 64 Lib.Math.max.name ∈ BW := (bw (t_5 _ (List.mem_of_getElem? (i := 159) rfl)) rfl)
theorem kc_X4_67 : Cond.constantLong RX4 67 (10000) ∈ BW := (bw (t_5 _ (List.mem_of_getElem? (i := 160) rfl)) rfl)
theorem lk_X4_69 : Cond.methodLink RX4 69 Lib.MathLoose.min_long.x ∈ BW := (bw (t_5 _ (List.mem_of_getElem? (i := 161) rfl)) rfl)
theorem lk_X4_76 : Cond.methodLink RX4 76 yX4_operand ∈ BW := (bw (t_5 _ (List.mem_of_getElem? (i := 145) rfl)) rfl)
theorem lk_X4_84 : Cond.methodLink RX4 84 yX4_join ∈ BW := (bw (t_5 _ (List.mem_of_getElem? (i := 151) rfl)) rfl)
theorem lk_X5_1 : Cond.methodLink RX5 1 Lib.objectInit ∈ BW := (bw (t_1 _ (List.mem_of_getElem? (i := 55) rfl)) rfl)
theorem lk_X6_1 : Cond.methodLink RX6 1 Lib.objectInit ∈ BW := (bw (t_1 _ (List.mem_of_getElem? (i := 118) rfl)) rfl)
theorem lk_X7_3 : Cond.methodLink RX7 3 Lib.objectInit ∈ BW := (bw (t_2 _ (List.mem_of_getElem? (i := 222) rfl)) rfl)
theorem nl_X7_22 : Cond.classLink RX7 22 RX4 ∈ BW := (bw (t_2 _ (List.mem_of_getElem? (i := 223) rfl)) rfl)
theorem lk_X7_24 : Cond.methodLink RX7 24 yX4_init ∈ BW := (bw (t_2 _ (List.mem_of_getElem? (i := 224) rfl)) rfl)
theorem lk_X7_85 : Cond.methodLink RX7 85 yX7_wordAmong ∈ BW := (bw (t_4 _ (List.mem_of_getElem? (i := 210) rfl)) rfl)
theorem lk_X7_50 : Cond.methodLink RX7 50 Lib.Math.min.name ∈ BW := (bw (t_4 _ (List.mem_of_getElem? (i := 112) rfl)) rfl)
theorem lk_X7_56 : Cond.methodLink RX7 56 yX4_blank ∈ BW := (bw (t_4 _ (List.mem_of_getElem? (i := 115) rfl)) rfl)
theorem lk_X7_59 : Cond.methodLink RX7 59 yX7_next ∈ BW := (bw (t_4 _ (List.mem_of_getElem? (i := 116) rfl)) rfl)
theorem lk_X7_62 : Cond.methodLink RX7 62 yX7_readClause ∈ BW := (bw (t_4 _ (List.mem_of_getElem? (i := 205) rfl)) rfl)
theorem lk_X7_147 : Cond.methodLink RX7 147 yX7_readNot ∈ BW := (bw (t_5 _ (List.mem_of_getElem? (i := 15) rfl)) rfl)
theorem lk_X7_140 : Cond.methodLink RX7 140 yX7_isWord ∈ BW := (bw (t_5 _ (List.mem_of_getElem? (i := 20) rfl)) rfl)
theorem lk_X7_144 : Cond.methodLink RX7 144 yX4_addDue ∈ BW := (bw (t_5 _ (List.mem_of_getElem? (i := 41) rfl)) rfl)
theorem lk_X7_91 : Cond.methodLink RX7 91 yX7_refuse ∈ BW := (bw (t_4 _ (List.mem_of_getElem? (i := 239) rfl)) rfl)
theorem lk_X7_94 : Cond.methodLink RX7 94 yX4_startDue ∈ BW := (bw (t_5 _ (List.mem_of_getElem? (i := 3) rfl)) rfl)
theorem lk_X7_97 : Cond.methodLink RX7 97 yX7_readExpr ∈ BW := (bw (t_5 _ (List.mem_of_getElem? (i := 7) rfl)) rfl)
theorem lk_X7_100 : Cond.methodLink RX7 100 yX4_lastStep ∈ BW := (bw (t_5 _ (List.mem_of_getElem? (i := 52) rfl)) rfl)
theorem kc_X7_103 : Cond.constant RX7 103 (99999999) ∈ BW := (bw (t_5 _ (List.mem_of_getElem? (i := 36) rfl)) rfl)
theorem lk_X7_104 : Cond.methodLink RX7 104 yX7_takeNumber ∈ BW := (bw (t_5 _ (List.mem_of_getElem? (i := 37) rfl)) rfl)
theorem lk_X7_107 : Cond.methodLink RX7 107 yX4_addStep ∈ BW := (bw (t_5 _ (List.mem_of_getElem? (i := 56) rfl)) rfl)
theorem lk_X7_111 : Cond.methodLink RX7 111 yX7_readSetting ∈ BW := (bw (t_5 _ (List.mem_of_getElem? (i := 60) rfl)) rfl)
theorem lk_X7_114 : Cond.methodLink RX7 114 yX7_takeSign ∈ BW := (bw (t_5 _ (List.mem_of_getElem? (i := 46) rfl)) rfl)
theorem lk_X7_135 : Cond.methodLink RX7 135 yX7_readAnd ∈ BW := (bw (t_5 _ (List.mem_of_getElem? (i := 11) rfl)) rfl)
theorem lk_X7_154 : Cond.methodLink RX7 154 yX7_readSum ∈ BW := (bw (t_5 _ (List.mem_of_getElem? (i := 24) rfl)) rfl)
theorem lk_X7_160 : Cond.methodLink RX7 160 yX7_readPart ∈ BW := (bw (t_5 _ (List.mem_of_getElem? (i := 32) rfl)) rfl)
theorem lk_X7_132 : Cond.methodLink RX7 132 yX4_agreeWith ∈ BW := (bw (t_5 _ (List.mem_of_getElem? (i := 64) rfl)) rfl)
theorem lk_X7_157 : Cond.methodLink RX7 157 yX7_readProduct ∈ BW := (bw (t_5 _ (List.mem_of_getElem? (i := 28) rfl)) rfl)
theorem lk_X7_81 : Cond.methodLink RX7 81 yX7_isName ∈ BW := (bw (t_4 _ (List.mem_of_getElem? (i := 235) rfl)) rfl)
theorem lk_X8_1 : Cond.methodLink RX8 1 Lib.objectInit ∈ BW := (bw (t_1 _ (List.mem_of_getElem? (i := 104) rfl)) rfl)
theorem lk_X9_3 : Cond.methodLink RX9 3 Lib.objectInit ∈ BW := (bw (t_1 _ (List.mem_of_getElem? (i := 140) rfl)) rfl)
theorem kc_X9_9 : Cond.constant RX9 9 (1000000) ∈ BW := (bw (t_1 _ (List.mem_of_getElem? (i := 141) rfl)) rfl)
theorem ni_X0 : Cond.instantiable RX0 19 ∈ BW ∧ Cond.initialized RX0 ∈ BW := ⟨(bw (t_2 _ (List.mem_of_getElem? (i := 111) rfl)) rfl), (bw (t_1 _ (List.mem_of_getElem? (i := 10) rfl)) rfl)⟩
theorem ni_X1 : Cond.instantiable RX1 16 ∈ BW ∧ Cond.initialized RX1 ∈ BW := ⟨(bw (t_1 _ (List.mem_of_getElem? (i := 34) rfl)) rfl), (bw (t_1 _ (List.mem_of_getElem? (i := 2) rfl)) rfl)⟩
theorem ni_X2 : Cond.instantiable RX2 5 ∈ BW ∧ Cond.initialized RX2 ∈ BW := ⟨(bw (t_2 _ (List.mem_of_getElem? (i := 195) rfl)) rfl), (bw (t_1 _ (List.mem_of_getElem? (i := 11) rfl)) rfl)⟩
theorem ni_X3 : Cond.instantiable RX3 13 ∈ BW ∧ Cond.initialized RX3 ∈ BW := ⟨(bw (t_1 _ (List.mem_of_getElem? (i := 132) rfl)) rfl), (bw (t_1 _ (List.mem_of_getElem? (i := 8) rfl)) rfl)⟩
theorem ni_X4 : Cond.instantiable RX4 16 ∈ BW ∧ Cond.initialized RX4 ∈ BW := ⟨(bw (t_1 _ (List.mem_of_getElem? (i := 217) rfl)) rfl), (bw (t_1 _ (List.mem_of_getElem? (i := 9) rfl)) rfl)⟩
theorem ni_X5 : Cond.instantiable RX5 2 ∈ BW ∧ Cond.initialized RX5 ∈ BW := ⟨(bw (t_1 _ (List.mem_of_getElem? (i := 51) rfl)) rfl), (bw (t_1 _ (List.mem_of_getElem? (i := 3) rfl)) rfl)⟩
theorem ni_X6 : Cond.instantiable RX6 3 ∈ BW ∧ Cond.initialized RX6 ∈ BW := ⟨(bw (t_1 _ (List.mem_of_getElem? (i := 114) rfl)) rfl), (bw (t_1 _ (List.mem_of_getElem? (i := 6) rfl)) rfl)⟩
theorem ni_X7 : Cond.instantiable RX7 11 ∈ BW ∧ Cond.initialized RX7 ∈ BW := ⟨(bw (t_2 _ (List.mem_of_getElem? (i := 218) rfl)) rfl), (bw (t_1 _ (List.mem_of_getElem? (i := 12) rfl)) rfl)⟩
theorem ni_X8 : Cond.instantiable RX8 2 ∈ BW ∧ Cond.initialized RX8 ∈ BW := ⟨(bw (t_1 _ (List.mem_of_getElem? (i := 100) rfl)) rfl), (bw (t_1 _ (List.mem_of_getElem? (i := 5) rfl)) rfl)⟩
theorem ni_X10 : Cond.instantiable RX10 8 ∈ BW ∧ Cond.initialized RX10 ∈ BW := ⟨(bw (t_1 _ (List.mem_of_getElem? (i := 65) rfl)) rfl), (bw (t_1 _ (List.mem_of_getElem? (i := 4) rfl)) rfl)⟩
theorem ni_X11 : Cond.instantiable RX11 9 ∈ BW ∧ Cond.initialized RX11 ∈ BW := ⟨(bw (t_1 _ (List.mem_of_getElem? (i := 26) rfl)) rfl), (bw (t_1 _ (List.mem_of_getElem? (i := 1) rfl)) rfl)⟩
theorem ni_X12 : Cond.instantiable RX12 101 ∈ BW ∧ Cond.initialized RX12 ∈ BW := ⟨(bw (t_6 _ (List.mem_of_getElem? (i := 118) rfl)) rfl), (bw (t_1 _ (List.mem_of_getElem? (i := 13) rfl)) rfl)⟩
theorem na_I : Cond.arrayClass FieldType.int ∈ BW := (bw (t_1 _ (List.mem_of_getElem? (i := 99) rfl)) rfl)
theorem na_J : Cond.arrayClass FieldType.long ∈ BW := (bw (t_2 _ (List.mem_of_getElem? (i := 216) rfl)) rfl)
theorem na_Z : Cond.arrayClass FieldType.boolean ∈ BW := (bw (t_7 _ (List.mem_of_getElem? (i := 187) rfl)) rfl)
theorem oi_1 : Cond.instanceMethod Lib.objectInit ∈ BW := (bw (t_1 _ (List.mem_of_getElem? (i := 31) rfl)) rfl)
theorem oi_2 : Cond.code Lib.objectInit ⟨#[0xb1]⟩ 1 none ∈ BW := bw (t_1 _ (List.mem_of_getElem? (i := 32) rfl)) rfl
theorem mj_ini : Cond.initialized "java/lang/Math" ∈ BW := (bw (t_1 _ (List.mem_of_getElem? (i := 19) rfl)) rfl)
theorem mj_max_i : Cond.static Lib.Math.max.name ∈ BW ∧ Cond.code Lib.Math.max.name Lib.Math.max.code 2 (some .int) ∈ BW := ⟨(bw (t_4 _ (List.mem_of_getElem? (i := 150) rfl)) rfl), bw (t_4 _ (List.mem_of_getElem? (i := 151) rfl)) rfl⟩
theorem mj_min_i : Cond.static Lib.Math.min.name ∈ BW ∧ Cond.code Lib.Math.min.name Lib.Math.min.code 2 (some .int) ∈ BW := ⟨(bw (t_4 _ (List.mem_of_getElem? (i := 113) rfl)) rfl), bw (t_4 _ (List.mem_of_getElem? (i := 114) rfl)) rfl⟩
theorem mj_min_l : Cond.static Lib.MathLoose.min_long.x ∈ BW ∧ Cond.code Lib.MathLoose.min_long.x Lib.MathLoose.min_long.code 4 (some .long) ∈ BW := ⟨(bw (t_5 _ (List.mem_of_getElem? (i := 162) rfl)) rfl), bw (t_5 _ (List.mem_of_getElem? (i := 163) rfl)) rfl⟩
theorem mj_abs_l : Cond.static Lib.MathLoose.abs_long.x ∈ BW ∧ Cond.code Lib.MathLoose.abs_long.x Lib.MathLoose.abs_long.code 2 (some .long) ∈ BW := ⟨(bw (t_6 _ (List.mem_of_getElem? (i := 59) rfl)) rfl), bw (t_6 _ (List.mem_of_getElem? (i := 60) rfl)) rfl⟩
