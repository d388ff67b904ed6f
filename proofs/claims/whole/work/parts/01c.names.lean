theorem dX6_copyFrom_57 : decode cX6_copyFrom 57 = .ok (.getfield 75, 3) := by decide +kernel
theorem dX6_copyFrom_60 : decode cX6_copyFrom 60 = .ok (.putfield 75, 3) := by decide +kernel
theorem dX6_copyFrom_63 : decode cX6_copyFrom 63 = .ok (.aload_n 0, 1) := by decide +kernel
theorem dX6_copyFrom_64 : decode cX6_copyFrom 64 = .ok (.aload_n 1, 1) := by decide +kernel
theorem dX6_copyFrom_65 : decode cX6_copyFrom 65 = .ok (.getfield 79, 3) := by decide +kernel
theorem dX6_copyFrom_68 : decode cX6_copyFrom 68 = .ok (.putfield 79, 3) := by decide +kernel
theorem dX6_copyFrom_71 : decode cX6_copyFrom 71 = .ok (.aload_n 0, 1) := by decide +kernel
theorem dX6_copyFrom_72 : decode cX6_copyFrom 72 = .ok (.aload_n 1, 1) := by decide +kernel
theorem dX6_copyFrom_73 : decode cX6_copyFrom 73 = .ok (.getfield 82, 3) := by decide +kernel
theorem dX6_copyFrom_76 : decode cX6_copyFrom 76 = .ok (.putfield 82, 3) := by decide +kernel
theorem dX6_copyFrom_79 : decode cX6_copyFrom 79 = .ok (.aload_n 0, 1) := by decide +kernel
theorem dX6_copyFrom_80 : decode cX6_copyFrom 80 = .ok (.aload_n 1, 1) := by decide +kernel
theorem dX6_copyFrom_81 : decode cX6_copyFrom 81 = .ok (.getfield 85, 3) := by decide +kernel
theorem dX6_copyFrom_84 : decode cX6_copyFrom 84 = .ok (.putfield 85, 3) := by decide +kernel
theorem dX6_copyFrom_87 : decode cX6_copyFrom 87 = .ok (.return_, 1) := by decide +kernel
set_option maxRecDepth 20000 in
theorem ggX6_changeSetting_X9_within : GoodIn wsX6_changeSetting wsX9_within := goodIn_r _ [5] (by decide +kernel) (by decide +kernel)
set_option maxRecDepth 20000 in
theorem gX6_changeSetting_X9_within_n88 : GoodIn wsX6_changeSetting (wsX9_within) := ggX6_changeSetting_X9_within
set_option maxRecDepth 20000 in
theorem ggX6_changeSetting_X8_leastSetting : GoodIn wsX6_changeSetting wsX8_leastSetting := goodIn_r _ [10, 11, 22, 23, 24, 25] (by decide +kernel) (by decide +kernel)
set_option maxRecDepth 20000 in
theorem gX6_changeSetting_X8_leastSetting : GoodIn wsX6_changeSetting (wsV RX6 98 RX8 yX8_leastSetting wsX8_leastSetting) := goodIn_app (goodIn_of _ (by decide +kernel)) ggX6_changeSetting_X8_leastSetting
theorem dX6_changeSetting_0 : decode cX6_changeSetting 0 = .ok (.iload_n 1, 1) := by decide +kernel
theorem dX6_changeSetting_1 : decode cX6_changeSetting 1 = .ok (.iconst 0, 1) := by decide +kernel
theorem dX6_changeSetting_2 : decode cX6_changeSetting 2 = .ok (.iconst 5, 1) := by decide +kernel
theorem dX6_changeSetting_3 : decode cX6_changeSetting 3 = .ok (.invokestatic 88, 3) := by decide +kernel
theorem dX6_changeSetting_6 : decode cX6_changeSetting 6 = .ok (.ifCond .ne 6, 3) := by decide +kernel
theorem dX6_changeSetting_9 : decode cX6_changeSetting 9 = .ok (.bipush (-2), 2) := by decide +kernel
theorem dX6_changeSetting_11 : decode cX6_changeSetting 11 = .ok (.ireturn, 1) := by decide +kernel
theorem dX6_changeSetting_12 : decode cX6_changeSetting 12 = .ok (.iload_n 2, 1) := by decide +kernel
theorem dX6_changeSetting_13 : decode cX6_changeSetting 13 = .ok (.getstatic 92, 3) := by decide +kernel
theorem dX6_changeSetting_16 : decode cX6_changeSetting 16 = .ok (.iload_n 1, 1) := by decide +kernel
theorem dX6_changeSetting_17 : decode cX6_changeSetting 17 = .ok (.iaload, 1) := by decide +kernel
theorem dX6_changeSetting_18 : decode cX6_changeSetting 18 = .ok (.getstatic 95, 3) := by decide +kernel
theorem dX6_changeSetting_21 : decode cX6_changeSetting 21 = .ok (.iload_n 1, 1) := by decide +kernel
theorem dX6_changeSetting_22 : decode cX6_changeSetting 22 = .ok (.iaload, 1) := by decide +kernel
theorem dX6_changeSetting_23 : decode cX6_changeSetting 23 = .ok (.invokestatic 88, 3) := by decide +kernel
theorem dX6_changeSetting_26 : decode cX6_changeSetting 26 = .ok (.ifCond .ne 6, 3) := by decide +kernel
theorem dX6_changeSetting_29 : decode cX6_changeSetting 29 = .ok (.bipush (-2), 2) := by decide +kernel
theorem dX6_changeSetting_31 : decode cX6_changeSetting 31 = .ok (.ireturn, 1) := by decide +kernel
theorem dX6_changeSetting_32 : decode cX6_changeSetting 32 = .ok (.iload_n 1, 1) := by decide +kernel
theorem dX6_changeSetting_33 : decode cX6_changeSetting 33 = .ok (.ifCond .ne 17, 3) := by decide +kernel
theorem dX6_changeSetting_36 : decode cX6_changeSetting 36 = .ok (.iload_n 2, 1) := by decide +kernel
theorem dX6_changeSetting_37 : decode cX6_changeSetting 37 = .ok (.aload_n 0, 1) := by decide +kernel
theorem dX6_changeSetting_38 : decode cX6_changeSetting 38 = .ok (.getfield 33, 3) := by decide +kernel
theorem dX6_changeSetting_41 : decode cX6_changeSetting 41 = .ok (.invokevirtual 98, 3) := by decide +kernel
theorem dX6_changeSetting_44 : decode cX6_changeSetting 44 = .ok (.if_icmp .ge 6, 3) := by decide +kernel
theorem dX6_changeSetting_47 : decode cX6_changeSetting 47 = .ok (.bipush (-5), 2) := by decide +kernel
theorem dX6_changeSetting_49 : decode cX6_changeSetting 49 = .ok (.ireturn, 1) := by decide +kernel
theorem dX6_changeSetting_50 : decode cX6_changeSetting 50 = .ok (.aload_n 0, 1) := by decide +kernel
theorem dX6_changeSetting_51 : decode cX6_changeSetting 51 = .ok (.getfield 18, 3) := by decide +kernel
theorem dX6_changeSetting_54 : decode cX6_changeSetting 54 = .ok (.iload_n 1, 1) := by decide +kernel
theorem dX6_changeSetting_55 : decode cX6_changeSetting 55 = .ok (.iaload, 1) := by decide +kernel
theorem dX6_changeSetting_56 : decode cX6_changeSetting 56 = .ok (.istore_n 3, 1) := by decide +kernel
theorem dX6_changeSetting_57 : decode cX6_changeSetting 57 = .ok (.aload_n 0, 1) := by decide +kernel
theorem dX6_changeSetting_58 : decode cX6_changeSetting 58 = .ok (.getfield 18, 3) := by decide +kernel
theorem dX6_changeSetting_61 : decode cX6_changeSetting 61 = .ok (.iload_n 1, 1) := by decide +kernel
theorem dX6_changeSetting_62 : decode cX6_changeSetting 62 = .ok (.iload_n 2, 1) := by decide +kernel
theorem dX6_changeSetting_63 : decode cX6_changeSetting 63 = .ok (.iastore, 1) := by decide +kernel
theorem dX6_changeSetting_64 : decode cX6_changeSetting 64 = .ok (.iload_n 3, 1) := by decide +kernel
theorem dX6_changeSetting_65 : decode cX6_changeSetting 65 = .ok (.ireturn, 1) := by decide +kernel
set_option maxRecDepth 20000 in
theorem ggX6_passDays_X9_within : GoodIn wsX6_passDays wsX9_within := goodIn_r _ [5] (by decide +kernel) (by decide +kernel)
set_option maxRecDepth 20000 in
theorem gX6_passDays_X9_within_n88 : GoodIn wsX6_passDays (wsX9_within) := ggX6_passDays_X9_within
set_option maxRecDepth 20000 in
theorem ggX6_passDays_X6_runDays : GoodIn wsX6_passDays wsX6_runDays := goodIn_r _ [10, 11, 12, 13, 2, 14, 1, 15, 16, 17, 9, 18, 19, 20, 21, 22, 23, 24, 25, 26, 27, 28, 29, 30, 31, 32, 33, 34, 35, 36, 3, 4, 5, 37, 38, 39, 40, 41, 42, 43, 44, 45, 46, 47, 48, 49, 50, 51, 52, 53, 54, 55, 56, 57, 58, 59, 60, 61, 62, 63, 64, 65, 66, 67, 68, 69, 70, 71, 72, 73, 74, 75, 76, 77, 78, 79, 80, 81, 82, 83, 84, 85, 86, 87, 88, 89, 90, 91, 92, 93, 94, 95, 96, 97, 98, 99, 100, 101, 102, 103, 104, 105, 106, 107, 108, 109, 110, 111, 112, 113, 114, 115, 116, 117, 118, 119, 120, 121, 122, 123, 124, 125, 126, 127, 128, 129, 130, 131, 132, 133, 134, 135, 136, 137, 138, 139, 140, 141, 142, 143, 144, 145, 146, 147, 148, 149, 150, 151, 152, 153, 154, 155, 156, 157, 158, 159, 160, 161, 162, 163, 164, 165, 166, 167, 168, 169, 170, 171, 172, 173, 174, 175, 176, 177, 178, 179] (by decide +kernel) (by decide +kernel)
set_option maxRecDepth 20000 in
theorem gX6_passDays_X6_runDays : GoodIn wsX6_passDays (wsV RX6 102 RX6 yX6_runDays wsX6_runDays) := goodIn_app (goodIn_of _ (by decide +kernel)) ggX6_passDays_X6_runDays
theorem dX6_passDays_0 : decode cX6_passDays 0 = .ok (.iload_n 1, 1) := by decide +kernel
theorem dX6_passDays_1 : decode cX6_passDays 1 = .ok (.iconst 1, 1) := by decide +kernel
theorem dX6_passDays_2 : decode cX6_passDays 2 = .ok (.bipush 30, 2) := by decide +kernel
theorem dX6_passDays_4 : decode cX6_passDays 4 = .ok (.invokestatic 88, 3) := by decide +kernel
theorem dX6_passDays_7 : decode cX6_passDays 7 = .ok (.ifCond .ne 6, 3) := by decide +kernel
theorem dX6_passDays_10 : decode cX6_passDays 10 = .ok (.bipush (-2), 2) := by decide +kernel
theorem dX6_passDays_12 : decode cX6_passDays 12 = .ok (.ireturn, 1) := by decide +kernel
theorem dX6_passDays_13 : decode cX6_passDays 13 = .ok (.aload_n 0, 1) := by decide +kernel
theorem dX6_passDays_14 : decode cX6_passDays 14 = .ok (.getfield 75, 3) := by decide +kernel
theorem dX6_passDays_17 : decode cX6_passDays 17 = .ok (.iload_n 1, 1) := by decide +kernel
theorem dX6_passDays_18 : decode cX6_passDays 18 = .ok (.aload_n 0, 1) := by decide +kernel
theorem dX6_passDays_19 : decode cX6_passDays 19 = .ok (.getfield 18, 3) := by decide +kernel
theorem dX6_passDays_22 : decode cX6_passDays 22 = .ok (.iconst 2, 1) := by decide +kernel
theorem dX6_passDays_23 : decode cX6_passDays 23 = .ok (.iaload, 1) := by decide +kernel
theorem dX6_passDays_24 : decode cX6_passDays 24 = .ok (.imul, 1) := by decide +kernel
theorem dX6_passDays_25 : decode cX6_passDays 25 = .ok (.iadd, 1) := by decide +kernel
theorem dX6_passDays_26 : decode cX6_passDays 26 = .ok (.sipush 9999, 3) := by decide +kernel
theorem dX6_passDays_29 : decode cX6_passDays 29 = .ok (.if_icmp .le 6, 3) := by decide +kernel
theorem dX6_passDays_32 : decode cX6_passDays 32 = .ok (.bipush (-5), 2) := by decide +kernel
theorem dX6_passDays_34 : decode cX6_passDays 34 = .ok (.ireturn, 1) := by decide +kernel
theorem dX6_passDays_35 : decode cX6_passDays 35 = .ok (.aload_n 0, 1) := by decide +kernel
theorem dX6_passDays_36 : decode cX6_passDays 36 = .ok (.iload_n 1, 1) := by decide +kernel
theorem dX6_passDays_37 : decode cX6_passDays 37 = .ok (.iconst 0, 1) := by decide +kernel
theorem dX6_passDays_38 : decode cX6_passDays 38 = .ok (.invokevirtual 102, 3) := by decide +kernel
theorem dX6_passDays_41 : decode cX6_passDays 41 = .ok (.ireturn, 1) := by decide +kernel
set_option maxRecDepth 20000 in
theorem ggX6_runDays_X6_bringLoads : GoodIn wsX6_runDays wsX6_bringLoads := goodIn_r _ [11, 12, 13, 14, 6, 15, 5, 16, 17, 18, 19, 20, 21, 22, 23, 24, 25, 26, 27, 28, 29, 30, 31, 32, 143, 144, 145, 146, 147, 148, 149, 150, 151, 152, 155, 156, 157, 158, 159, 160, 161, 162, 163, 164, 165, 166, 167] (by decide +kernel) (by decide +kernel)
set_option maxRecDepth 20000 in
theorem gX6_runDays_X6_bringLoads : GoodIn wsX6_runDays (wsV RX6 109 RX6 yX6_bringLoads wsX6_bringLoads) := goodIn_app (goodIn_of _ (by decide +kernel)) ggX6_runDays_X6_bringLoads
set_option maxRecDepth 20000 in
theorem ggX6_runDays_X6_sendTrucks : GoodIn wsX6_runDays wsX6_sendTrucks := goodIn_r _ [36, 4, 37, 38, 39, 40, 12, 15, 41, 6, 42, 43, 44, 45, 46, 47, 48, 30, 31, 32, 49, 50, 51, 21, 52, 23, 53, 18, 19, 20, 22, 54, 55, 56, 57, 58, 59, 60, 61, 62, 63, 64, 65, 66, 67, 143, 144, 145, 146, 147, 148, 149, 150, 151, 152, 159, 160, 161, 162, 163, 155, 156, 157, 158] (by decide +kernel) (by decide +kernel)
set_option maxRecDepth 20000 in
theorem gX6_runDays_X6_sendTrucks : GoodIn wsX6_runDays (wsV RX6 112 RX6 yX6_sendTrucks wsX6_sendTrucks) := goodIn_app (goodIn_of _ (by decide +kernel)) ggX6_runDays_X6_sendTrucks
set_option maxRecDepth 20000 in
theorem ggX6_runDays_X2_crushForAnHour : GoodIn wsX6_runDays wsX2_crushForAnHour := goodIn_r _ [71, 29, 72, 38, 39, 40, 73, 74, 75, 27, 76, 77, 78, 79, 80, 81, 82, 83, 84, 85, 86, 30, 31, 32, 164, 165, 166, 167] (by decide +kernel) (by decide +kernel)
set_option maxRecDepth 20000 in
theorem gX6_runDays_X2_crushForAnHour : GoodIn wsX6_runDays (wsV RX6 115 RX2 yX2_crushForAnHour wsX2_crushForAnHour) := goodIn_app (goodIn_of _ (by decide +kernel)) ggX6_runDays_X2_crushForAnHour
set_option maxRecDepth 20000 in
theorem ggX6_runDays_X6_deliver : GoodIn wsX6_runDays wsX6_deliver := goodIn_r _ [90, 2, 3, 91, 5, 92, 93, 94, 95, 1, 96, 97, 98, 99, 100, 101, 102, 103, 104, 105, 106, 38, 39, 40, 107, 108, 79, 80, 109, 110, 111, 112, 113, 114, 115, 116, 117, 118, 119, 120, 121, 30, 31, 32, 122, 123, 124, 125, 126, 127, 128, 129, 27, 130, 85, 131, 132, 133, 134, 135, 136, 137, 138, 139, 140, 141, 142, 143, 144, 145, 146, 147, 148, 149, 150, 151, 152, 153, 154, 164, 165, 166, 167, 168, 169, 170, 171, 172, 173, 174, 175] (by decide +kernel) (by decide +kernel)
set_option maxRecDepth 20000 in
theorem gX6_runDays_X6_deliver : GoodIn wsX6_runDays (wsV RX6 119 RX6 yX6_deliver wsX6_deliver) := goodIn_app (goodIn_of _ (by decide +kernel)) ggX6_runDays_X6_deliver
theorem dX6_runDays_0 : decode cX6_runDays 0 = .ok (.aload_n 0, 1) := by decide +kernel
theorem dX6_runDays_1 : decode cX6_runDays 1 = .ok (.getfield 79, 3) := by decide +kernel
theorem dX6_runDays_4 : decode cX6_runDays 4 = .ok (.istore_n 3, 1) := by decide +kernel
theorem dX6_runDays_5 : decode cX6_runDays 5 = .ok (.iconst 0, 1) := by decide +kernel
theorem dX6_runDays_6 : decode cX6_runDays 6 = .ok (.istore 4, 2) := by decide +kernel
theorem dX6_runDays_8 : decode cX6_runDays 8 = .ok (.iload 4, 2) := by decide +kernel
theorem dX6_runDays_10 : decode cX6_runDays 10 = .ok (.iload_n 1, 1) := by decide +kernel
theorem dX6_runDays_11 : decode cX6_runDays 11 = .ok (.if_icmp .ge 88, 3) := by decide +kernel
theorem dX6_runDays_14 : decode cX6_runDays 14 = .ok (.iload_n 2, 1) := by decide +kernel
theorem dX6_runDays_15 : decode cX6_runDays 15 = .ok (.ifCond .eq 13, 3) := by decide +kernel
theorem dX6_runDays_18 : decode cX6_runDays 18 = .ok (.aload_n 0, 1) := by decide +kernel
theorem dX6_runDays_19 : decode cX6_runDays 19 = .ok (.getfield 47, 3) := by decide +kernel
theorem dX6_runDays_22 : decode cX6_runDays 22 = .ok (.getfield 106, 3) := by decide +kernel
theorem dX6_runDays_25 : decode cX6_runDays 25 = .ok (.ifCond .eq 74, 3) := by decide +kernel
theorem dX6_runDays_28 : decode cX6_runDays 28 = .ok (.aload_n 0, 1) := by decide +kernel
theorem dX6_runDays_29 : decode cX6_runDays 29 = .ok (.getfield 18, 3) := by decide +kernel
theorem dX6_runDays_32 : decode cX6_runDays 32 = .ok (.iconst 2, 1) := by decide +kernel
theorem dX6_runDays_33 : decode cX6_runDays 33 = .ok (.iaload, 1) := by decide +kernel
theorem dX6_runDays_34 : decode cX6_runDays 34 = .ok (.istore 5, 2) := by decide +kernel
theorem dX6_runDays_36 : decode cX6_runDays 36 = .ok (.iconst 0, 1) := by decide +kernel
theorem dX6_runDays_37 : decode cX6_runDays 37 = .ok (.istore 6, 2) := by decide +kernel
theorem dX6_runDays_39 : decode cX6_runDays 39 = .ok (.iload 6, 2) := by decide +kernel
theorem dX6_runDays_41 : decode cX6_runDays 41 = .ok (.iload 5, 2) := by decide +kernel
theorem dX6_runDays_43 : decode cX6_runDays 43 = .ok (.if_icmp .ge 46, 3) := by decide +kernel
theorem dX6_runDays_46 : decode cX6_runDays 46 = .ok (.aload_n 0, 1) := by decide +kernel
theorem dX6_runDays_47 : decode cX6_runDays 47 = .ok (.invokevirtual 109, 3) := by decide +kernel
theorem dX6_runDays_50 : decode cX6_runDays 50 = .ok (.aload_n 0, 1) := by decide +kernel
theorem dX6_runDays_51 : decode cX6_runDays 51 = .ok (.invokevirtual 112, 3) := by decide +kernel
theorem dX6_runDays_54 : decode cX6_runDays 54 = .ok (.aload_n 0, 1) := by decide +kernel
theorem dX6_runDays_55 : decode cX6_runDays 55 = .ok (.getfield 40, 3) := by decide +kernel
theorem dX6_runDays_58 : decode cX6_runDays 58 = .ok (.aload_n 0, 1) := by decide +kernel
theorem dX6_runDays_59 : decode cX6_runDays 59 = .ok (.getfield 18, 3) := by decide +kernel
theorem dX6_runDays_62 : decode cX6_runDays 62 = .ok (.iconst 3, 1) := by decide +kernel
theorem dX6_runDays_63 : decode cX6_runDays 63 = .ok (.iaload, 1) := by decide +kernel
theorem dX6_runDays_64 : decode cX6_runDays 64 = .ok (.aload_n 0, 1) := by decide +kernel
theorem dX6_runDays_65 : decode cX6_runDays 65 = .ok (.getfield 18, 3) := by decide +kernel
theorem dX6_runDays_68 : decode cX6_runDays 68 = .ok (.iconst 4, 1) := by decide +kernel
theorem dX6_runDays_69 : decode cX6_runDays 69 = .ok (.iaload, 1) := by decide +kernel
theorem dX6_runDays_70 : decode cX6_runDays 70 = .ok (.invokevirtual 115, 3) := by decide +kernel
theorem dX6_runDays_73 : decode cX6_runDays 73 = .ok (.aload_n 0, 1) := by decide +kernel
theorem dX6_runDays_74 : decode cX6_runDays 74 = .ok (.dup, 1) := by decide +kernel
theorem dX6_runDays_75 : decode cX6_runDays 75 = .ok (.getfield 75, 3) := by decide +kernel
theorem dX6_runDays_78 : decode cX6_runDays 78 = .ok (.iconst 1, 1) := by decide +kernel
theorem dX6_runDays_79 : decode cX6_runDays 79 = .ok (.iadd, 1) := by decide +kernel
theorem dX6_runDays_80 : decode cX6_runDays 80 = .ok (.putfield 75, 3) := by decide +kernel
theorem dX6_runDays_83 : decode cX6_runDays 83 = .ok (.iinc 6 1, 3) := by decide +kernel
theorem dX6_runDays_86 : decode cX6_runDays 86 = .ok (.goto (-47), 3) := by decide +kernel
theorem dX6_runDays_89 : decode cX6_runDays 89 = .ok (.aload_n 0, 1) := by decide +kernel
theorem dX6_runDays_90 : decode cX6_runDays 90 = .ok (.invokevirtual 119, 3) := by decide +kernel
theorem dX6_runDays_93 : decode cX6_runDays 93 = .ok (.iinc 4 1, 3) := by decide +kernel
theorem dX6_runDays_96 : decode cX6_runDays 96 = .ok (.goto (-88), 3) := by decide +kernel
theorem dX6_runDays_99 : decode cX6_runDays 99 = .ok (.aload_n 0, 1) := by decide +kernel
theorem dX6_runDays_100 : decode cX6_runDays 100 = .ok (.getfield 79, 3) := by decide +kernel
theorem dX6_runDays_103 : decode cX6_runDays 103 = .ok (.iload_n 3, 1) := by decide +kernel
theorem dX6_runDays_104 : decode cX6_runDays 104 = .ok (.isub, 1) := by decide +kernel
theorem dX6_runDays_105 : decode cX6_runDays 105 = .ok (.ireturn, 1) := by decide +kernel
set_option maxRecDepth 20000 in
theorem ggX6_bringLoads_X3_has : GoodIn wsX6_bringLoads wsX3_has := goodIn_r _ [13, 14, 38, 39, 40, 41, 42] (by decide +kernel) (by decide +kernel)
set_option maxRecDepth 20000 in
theorem gX6_bringLoads_X3_has : GoodIn wsX6_bringLoads (wsV RX6 128 RX3 yX3_has wsX3_has) := goodIn_app (goodIn_of _ (by decide +kernel)) ggX6_bringLoads_X3_has
set_option maxRecDepth 20000 in
theorem ggX6_bringLoads_X2_bring : GoodIn wsX6_bringLoads wsX2_bring := goodIn_r _ [19, 20, 21, 22, 23, 43, 44, 45, 46] (by decide +kernel) (by decide +kernel)
set_option maxRecDepth 20000 in
theorem gX6_bringLoads_X2_bring : GoodIn wsX6_bringLoads (wsV RX6 138 RX2 yX2_bring wsX2_bring) := goodIn_app (goodIn_of _ (by decide +kernel)) ggX6_bringLoads_X2_bring
theorem dX6_bringLoads_0 : decode cX6_bringLoads 0 = .ok (.iconst 0, 1) := by decide +kernel
theorem dX6_bringLoads_1 : decode cX6_bringLoads 1 = .ok (.istore_n 1, 1) := by decide +kernel
theorem dX6_bringLoads_2 : decode cX6_bringLoads 2 = .ok (.iload_n 1, 1) := by decide +kernel
theorem dX6_bringLoads_3 : decode cX6_bringLoads 3 = .ok (.bipush 20, 2) := by decide +kernel
theorem dX6_bringLoads_5 : decode cX6_bringLoads 5 = .ok (.if_icmp .ge 82, 3) := by decide +kernel
theorem dX6_bringLoads_8 : decode cX6_bringLoads 8 = .ok (.aload_n 0, 1) := by decide +kernel
theorem dX6_bringLoads_9 : decode cX6_bringLoads 9 = .ok (.getfield 33, 3) := by decide +kernel
theorem dX6_bringLoads_12 : decode cX6_bringLoads 12 = .ok (.getfield 122, 3) := by decide +kernel
theorem dX6_bringLoads_15 : decode cX6_bringLoads 15 = .ok (.iload_n 1, 1) := by decide +kernel
theorem dX6_bringLoads_16 : decode cX6_bringLoads 16 = .ok (.iaload, 1) := by decide +kernel
theorem dX6_bringLoads_17 : decode cX6_bringLoads 17 = .ok (.istore_n 2, 1) := by decide +kernel
theorem dX6_bringLoads_18 : decode cX6_bringLoads 18 = .ok (.aload_n 0, 1) := by decide +kernel
theorem dX6_bringLoads_19 : decode cX6_bringLoads 19 = .ok (.getfield 33, 3) := by decide +kernel
theorem dX6_bringLoads_22 : decode cX6_bringLoads 22 = .ok (.getfield 125, 3) := by decide +kernel
theorem dX6_bringLoads_25 : decode cX6_bringLoads 25 = .ok (.iload_n 1, 1) := by decide +kernel
theorem dX6_bringLoads_26 : decode cX6_bringLoads 26 = .ok (.iaload, 1) := by decide +kernel
theorem dX6_bringLoads_27 : decode cX6_bringLoads 27 = .ok (.aload_n 0, 1) := by decide +kernel
theorem dX6_bringLoads_28 : decode cX6_bringLoads 28 = .ok (.getfield 75, 3) := by decide +kernel
theorem dX6_bringLoads_31 : decode cX6_bringLoads 31 = .ok (.if_icmp .ne 50, 3) := by decide +kernel
theorem dX6_bringLoads_34 : decode cX6_bringLoads 34 = .ok (.aload_n 0, 1) := by decide +kernel
theorem dX6_bringLoads_35 : decode cX6_bringLoads 35 = .ok (.getfield 26, 3) := by decide +kernel
theorem dX6_bringLoads_38 : decode cX6_bringLoads 38 = .ok (.iload_n 2, 1) := by decide +kernel
theorem dX6_bringLoads_39 : decode cX6_bringLoads 39 = .ok (.invokevirtual 128, 3) := by decide +kernel
theorem dX6_bringLoads_42 : decode cX6_bringLoads 42 = .ok (.ifCond .eq 39, 3) := by decide +kernel
theorem dX6_bringLoads_45 : decode cX6_bringLoads 45 = .ok (.aload_n 0, 1) := by decide +kernel
theorem dX6_bringLoads_46 : decode cX6_bringLoads 46 = .ok (.getfield 40, 3) := by decide +kernel
theorem dX6_bringLoads_49 : decode cX6_bringLoads 49 = .ok (.aload_n 0, 1) := by decide +kernel
theorem dX6_bringLoads_50 : decode cX6_bringLoads 50 = .ok (.getfield 33, 3) := by decide +kernel
theorem dX6_bringLoads_53 : decode cX6_bringLoads 53 = .ok (.getfield 132, 3) := by decide +kernel
theorem dX6_bringLoads_56 : decode cX6_bringLoads 56 = .ok (.iload_n 1, 1) := by decide +kernel
theorem dX6_bringLoads_57 : decode cX6_bringLoads 57 = .ok (.iaload, 1) := by decide +kernel
theorem dX6_bringLoads_58 : decode cX6_bringLoads 58 = .ok (.aload_n 0, 1) := by decide +kernel
theorem dX6_bringLoads_59 : decode cX6_bringLoads 59 = .ok (.getfield 26, 3) := by decide +kernel
theorem dX6_bringLoads_62 : decode cX6_bringLoads 62 = .ok (.getfield 135, 3) := by decide +kernel
theorem dX6_bringLoads_65 : decode cX6_bringLoads 65 = .ok (.iload_n 2, 1) := by decide +kernel
theorem dX6_bringLoads_66 : decode cX6_bringLoads 66 = .ok (.iaload, 1) := by decide +kernel
theorem dX6_bringLoads_67 : decode cX6_bringLoads 67 = .ok (.invokevirtual 138, 3) := by decide +kernel
theorem dX6_bringLoads_70 : decode cX6_bringLoads 70 = .ok (.aload_n 0, 1) := by decide +kernel
theorem dX6_bringLoads_71 : decode cX6_bringLoads 71 = .ok (.getfield 33, 3) := by decide +kernel
theorem dX6_bringLoads_74 : decode cX6_bringLoads 74 = .ok (.getfield 122, 3) := by decide +kernel
theorem dX6_bringLoads_77 : decode cX6_bringLoads 77 = .ok (.iload_n 1, 1) := by decide +kernel
theorem dX6_bringLoads_78 : decode cX6_bringLoads 78 = .ok (.bipush (-6), 2) := by decide +kernel
theorem dX6_bringLoads_80 : decode cX6_bringLoads 80 = .ok (.iastore, 1) := by decide +kernel
theorem dX6_bringLoads_81 : decode cX6_bringLoads 81 = .ok (.iinc 1 1, 3) := by decide +kernel
theorem dX6_bringLoads_84 : decode cX6_bringLoads 84 = .ok (.goto (-82), 3) := by decide +kernel
theorem dX6_bringLoads_87 : decode cX6_bringLoads 87 = .ok (.return_, 1) := by decide +kernel
set_option maxRecDepth 20000 in
theorem ggX6_sendTrucks_X8_isAway : GoodIn wsX6_sendTrucks wsX8_isAway := goodIn_r _ [15, 16, 17, 18, 19, 60, 61, 62, 63] (by decide +kernel) (by decide +kernel)
set_option maxRecDepth 20000 in
theorem gX6_sendTrucks_X8_isAway : GoodIn wsX6_sendTrucks (wsV RX6 147 RX8 yX8_isAway wsX8_isAway) := goodIn_app (goodIn_of _ (by decide +kernel)) ggX6_sendTrucks_X8_isAway
set_option maxRecDepth 20000 in
theorem ggX6_sendTrucks_X3_fullest : GoodIn wsX6_sendTrucks wsX3_fullest := goodIn_r _ [24, 25, 26, 55, 56, 57, 58, 59] (by decide +kernel) (by decide +kernel)
set_option maxRecDepth 20000 in
theorem gX6_sendTrucks_X3_fullest : GoodIn wsX6_sendTrucks (wsV RX6 150 RX3 yX3_fullest wsX3_fullest) := goodIn_app (goodIn_of _ (by decide +kernel)) ggX6_sendTrucks_X3_fullest
set_option maxRecDepth 20000 in
theorem ggX6_sendTrucks_X3_has : GoodIn wsX6_sendTrucks wsX3_has := goodIn_r _ [30, 25, 55, 56, 57, 58, 59] (by decide +kernel) (by decide +kernel)
set_option maxRecDepth 20000 in
theorem gX6_sendTrucks_X3_has : GoodIn wsX6_sendTrucks (wsV RX6 128 RX3 yX3_has wsX3_has) := goodIn_app (goodIn_of _ (by decide +kernel)) ggX6_sendTrucks_X3_has
set_option maxRecDepth 20000 in
theorem ggX6_sendTrucks_X3_take : GoodIn wsX6_sendTrucks wsX3_take := goodIn_r _ [34, 26, 35, 3, 4, 5, 36, 37, 28, 29, 23, 30, 25, 55, 56, 57, 58, 59] (by decide +kernel) (by decide +kernel)
set_option maxRecDepth 20000 in
theorem gX6_sendTrucks_X3_take : GoodIn wsX6_sendTrucks (wsV RX6 156 RX3 yX3_take wsX3_take) := goodIn_app (goodIn_of _ (by decide +kernel)) ggX6_sendTrucks_X3_take
set_option maxRecDepth 20000 in
theorem ggX6_sendTrucks_X8_send : GoodIn wsX6_sendTrucks wsX8_send := goodIn_r _ [41, 16, 42, 43, 44, 17, 18, 19, 60, 61, 62, 63] (by decide +kernel) (by decide +kernel)
set_option maxRecDepth 20000 in
theorem gX6_sendTrucks_X8_send : GoodIn wsX6_sendTrucks (wsV RX6 159 RX8 yX8_send wsX8_send) := goodIn_app (goodIn_of _ (by decide +kernel)) ggX6_sendTrucks_X8_send
theorem dX6_sendTrucks_0 : decode cX6_sendTrucks 0 = .ok (.aload_n 0, 1) := by decide +kernel
theorem dX6_sendTrucks_1 : decode cX6_sendTrucks 1 = .ok (.getfield 18, 3) := by decide +kernel
theorem dX6_sendTrucks_4 : decode cX6_sendTrucks 4 = .ok (.iconst 0, 1) := by decide +kernel
theorem dX6_sendTrucks_5 : decode cX6_sendTrucks 5 = .ok (.iaload, 1) := by decide +kernel
theorem dX6_sendTrucks_6 : decode cX6_sendTrucks 6 = .ok (.bipush 20, 2) := by decide +kernel
theorem dX6_sendTrucks_8 : decode cX6_sendTrucks 8 = .ok (.invokestatic 141, 3) := by decide +kernel
theorem dX6_sendTrucks_11 : decode cX6_sendTrucks 11 = .ok (.istore_n 1, 1) := by decide +kernel
theorem dX6_sendTrucks_12 : decode cX6_sendTrucks 12 = .ok (.iconst 0, 1) := by decide +kernel
theorem dX6_sendTrucks_13 : decode cX6_sendTrucks 13 = .ok (.istore_n 2, 1) := by decide +kernel
theorem dX6_sendTrucks_14 : decode cX6_sendTrucks 14 = .ok (.iload_n 2, 1) := by decide +kernel
theorem dX6_sendTrucks_15 : decode cX6_sendTrucks 15 = .ok (.iload_n 1, 1) := by decide +kernel
theorem dX6_sendTrucks_16 : decode cX6_sendTrucks 16 = .ok (.if_icmp .ge 99, 3) := by decide +kernel
theorem dX6_sendTrucks_19 : decode cX6_sendTrucks 19 = .ok (.aload_n 0, 1) := by decide +kernel
theorem dX6_sendTrucks_20 : decode cX6_sendTrucks 20 = .ok (.getfield 33, 3) := by decide +kernel
theorem dX6_sendTrucks_23 : decode cX6_sendTrucks 23 = .ok (.iload_n 2, 1) := by decide +kernel
theorem dX6_sendTrucks_24 : decode cX6_sendTrucks 24 = .ok (.invokevirtual 147, 3) := by decide +kernel
theorem dX6_sendTrucks_27 : decode cX6_sendTrucks 27 = .ok (.ifCond .ne 82, 3) := by decide +kernel
theorem dX6_sendTrucks_30 : decode cX6_sendTrucks 30 = .ok (.aload_n 0, 1) := by decide +kernel
theorem dX6_sendTrucks_31 : decode cX6_sendTrucks 31 = .ok (.getfield 26, 3) := by decide +kernel
theorem dX6_sendTrucks_34 : decode cX6_sendTrucks 34 = .ok (.invokevirtual 150, 3) := by decide +kernel
theorem dX6_sendTrucks_37 : decode cX6_sendTrucks 37 = .ok (.istore_n 3, 1) := by decide +kernel
theorem dX6_sendTrucks_38 : decode cX6_sendTrucks 38 = .ok (.aload_n 0, 1) := by decide +kernel
theorem dX6_sendTrucks_39 : decode cX6_sendTrucks 39 = .ok (.getfield 26, 3) := by decide +kernel
theorem dX6_sendTrucks_42 : decode cX6_sendTrucks 42 = .ok (.iload_n 3, 1) := by decide +kernel
theorem dX6_sendTrucks_43 : decode cX6_sendTrucks 43 = .ok (.invokevirtual 128, 3) := by decide +kernel
theorem dX6_sendTrucks_46 : decode cX6_sendTrucks 46 = .ok (.ifCond .ne 4, 3) := by decide +kernel
theorem dX6_sendTrucks_49 : decode cX6_sendTrucks 49 = .ok (.return_, 1) := by decide +kernel
theorem dX6_sendTrucks_50 : decode cX6_sendTrucks 50 = .ok (.aload_n 0, 1) := by decide +kernel
theorem dX6_sendTrucks_51 : decode cX6_sendTrucks 51 = .ok (.getfield 26, 3) := by decide +kernel
theorem dX6_sendTrucks_54 : decode cX6_sendTrucks 54 = .ok (.getfield 153, 3) := by decide +kernel
theorem dX6_sendTrucks_57 : decode cX6_sendTrucks 57 = .ok (.iload_n 3, 1) := by decide +kernel
theorem dX6_sendTrucks_58 : decode cX6_sendTrucks 58 = .ok (.iaload, 1) := by decide +kernel
theorem dX6_sendTrucks_59 : decode cX6_sendTrucks 59 = .ok (.istore 4, 2) := by decide +kernel
theorem dX6_sendTrucks_61 : decode cX6_sendTrucks 61 = .ok (.aload_n 0, 1) := by decide +kernel
theorem dX6_sendTrucks_62 : decode cX6_sendTrucks 62 = .ok (.getfield 33, 3) := by decide +kernel
theorem dX6_sendTrucks_65 : decode cX6_sendTrucks 65 = .ok (.iload_n 2, 1) := by decide +kernel
theorem dX6_sendTrucks_66 : decode cX6_sendTrucks 66 = .ok (.iload_n 3, 1) := by decide +kernel
theorem dX6_sendTrucks_67 : decode cX6_sendTrucks 67 = .ok (.aload_n 0, 1) := by decide +kernel
theorem dX6_sendTrucks_68 : decode cX6_sendTrucks 68 = .ok (.getfield 26, 3) := by decide +kernel
theorem dX6_sendTrucks_71 : decode cX6_sendTrucks 71 = .ok (.iload_n 3, 1) := by decide +kernel
theorem dX6_sendTrucks_72 : decode cX6_sendTrucks 72 = .ok (.aload_n 0, 1) := by decide +kernel
theorem dX6_sendTrucks_73 : decode cX6_sendTrucks 73 = .ok (.getfield 18, 3) := by decide +kernel
theorem dX6_sendTrucks_76 : decode cX6_sendTrucks 76 = .ok (.iconst 1, 1) := by decide +kernel
theorem dX6_sendTrucks_77 : decode cX6_sendTrucks 77 = .ok (.iaload, 1) := by decide +kernel
theorem dX6_sendTrucks_78 : decode cX6_sendTrucks 78 = .ok (.invokevirtual 156, 3) := by decide +kernel
theorem dX6_sendTrucks_81 : decode cX6_sendTrucks 81 = .ok (.aload_n 0, 1) := by decide +kernel
theorem dX6_sendTrucks_82 : decode cX6_sendTrucks 82 = .ok (.getfield 75, 3) := by decide +kernel
theorem dX6_sendTrucks_85 : decode cX6_sendTrucks 85 = .ok (.iload 4, 2) := by decide +kernel
theorem dX6_sendTrucks_87 : decode cX6_sendTrucks 87 = .ok (.iadd, 1) := by decide +kernel
theorem dX6_sendTrucks_88 : decode cX6_sendTrucks 88 = .ok (.invokevirtual 159, 3) := by decide +kernel
theorem dX6_sendTrucks_91 : decode cX6_sendTrucks 91 = .ok (.aload_n 0, 1) := by decide +kernel
theorem dX6_sendTrucks_92 : decode cX6_sendTrucks 92 = .ok (.dup, 1) := by decide +kernel
theorem dX6_sendTrucks_93 : decode cX6_sendTrucks 93 = .ok (.getfield 85, 3) := by decide +kernel
theorem dX6_sendTrucks_96 : decode cX6_sendTrucks 96 = .ok (.aload_n 0, 1) := by decide +kernel
theorem dX6_sendTrucks_97 : decode cX6_sendTrucks 97 = .ok (.getfield 18, 3) := by decide +kernel
theorem dX6_sendTrucks_100 : decode cX6_sendTrucks 100 = .ok (.iconst 5, 1) := by decide +kernel
theorem dX6_sendTrucks_101 : decode cX6_sendTrucks 101 = .ok (.iaload, 1) := by decide +kernel
theorem dX6_sendTrucks_102 : decode cX6_sendTrucks 102 = .ok (.iload 4, 2) := by decide +kernel
theorem dX6_sendTrucks_104 : decode cX6_sendTrucks 104 = .ok (.imul, 1) := by decide +kernel
theorem dX6_sendTrucks_105 : decode cX6_sendTrucks 105 = .ok (.iadd, 1) := by decide +kernel
theorem dX6_sendTrucks_106 : decode cX6_sendTrucks 106 = .ok (.putfield 85, 3) := by decide +kernel
theorem dX6_sendTrucks_109 : decode cX6_sendTrucks 109 = .ok (.iinc 2 1, 3) := by decide +kernel
theorem dX6_sendTrucks_112 : decode cX6_sendTrucks 112 = .ok (.goto (-98), 3) := by decide +kernel
theorem dX6_sendTrucks_115 : decode cX6_sendTrucks 115 = .ok (.return_, 1) := by decide +kernel
set_option maxRecDepth 20000 in
theorem ggX6_deliver_X0_workOut : GoodIn wsX6_deliver wsX0_workOut := goodIn_r _ [14, 15, 16, 17, 18, 19, 20, 21, 22, 23, 24, 25, 26, 27, 28, 29, 30, 31, 32, 33, 34, 35, 36, 37, 38, 39, 40, 41, 42, 43, 44, 45, 46, 13, 47, 83, 84, 85, 86, 87, 88, 89, 90, 77, 78] (by decide +kernel) (by decide +kernel)
set_option maxRecDepth 20000 in
theorem gX6_deliver_X0_workOut : GoodIn wsX6_deliver (wsV RX6 166 RX0 yX0_workOut wsX0_workOut) := goodIn_app (goodIn_of _ (by decide +kernel)) ggX6_deliver_X0_workOut
set_option maxRecDepth 20000 in
theorem ggX6_deliver_X1_term : GoodIn wsX6_deliver wsX1_term := goodIn_r _ [34, 35, 36, 37, 38, 33, 39, 40, 41, 42, 43, 77, 78] (by decide +kernel) (by decide +kernel)
set_option maxRecDepth 20000 in
theorem gX6_deliver_X1_term : GoodIn wsX6_deliver (wsV RX6 176 RX1 yX1_term wsX1_term) := goodIn_app (goodIn_of _ (by decide +kernel)) ggX6_deliver_X1_term
set_option maxRecDepth 20000 in
theorem ggX6_deliver_X2_takeOut : GoodIn wsX6_deliver wsX2_takeOut := goodIn_r _ [53, 54, 55, 56, 57, 79, 80, 81, 82, 83, 84, 85, 86, 87, 88, 89, 90] (by decide +kernel) (by decide +kernel)
set_option maxRecDepth 20000 in
theorem gX6_deliver_X2_takeOut : GoodIn wsX6_deliver (wsV RX6 179 RX2 yX2_takeOut wsX2_takeOut) := goodIn_app (goodIn_of _ (by decide +kernel)) ggX6_deliver_X2_takeOut
set_option maxRecDepth 20000 in
theorem ggX6_deliver_X1_dropOne : GoodIn wsX6_deliver wsX1_dropOne := goodIn_r _ [61, 40, 62, 21, 22, 23, 35, 63, 64, 65, 66, 36, 37, 38, 33, 39, 77, 78] (by decide +kernel) (by decide +kernel)
set_option maxRecDepth 20000 in
theorem gX6_deliver_X1_dropOne : GoodIn wsX6_deliver (wsV RX6 183 RX1 yX1_dropOne wsX1_dropOne) := goodIn_app (goodIn_of _ (by decide +kernel)) ggX6_deliver_X1_dropOne
theorem dX6_deliver_0 : decode cX6_deliver 0 = .ok (.iconst 0, 1) := by decide +kernel
theorem dX6_deliver_1 : decode cX6_deliver 1 = .ok (.istore_n 1, 1) := by decide +kernel
theorem dX6_deliver_2 : decode cX6_deliver 2 = .ok (.iconst 0, 1) := by decide +kernel
theorem dX6_deliver_3 : decode cX6_deliver 3 = .ok (.istore_n 2, 1) := by decide +kernel
theorem dX6_deliver_4 : decode cX6_deliver 4 = .ok (.iload_n 2, 1) := by decide +kernel
theorem dX6_deliver_5 : decode cX6_deliver 5 = .ok (.bipush 12, 2) := by decide +kernel
theorem dX6_deliver_7 : decode cX6_deliver 7 = .ok (.if_icmp .ge 111, 3) := by decide +kernel
theorem dX6_deliver_10 : decode cX6_deliver 10 = .ok (.iload_n 1, 1) := by decide +kernel
theorem dX6_deliver_11 : decode cX6_deliver 11 = .ok (.aload_n 0, 1) := by decide +kernel
theorem dX6_deliver_12 : decode cX6_deliver 12 = .ok (.getfield 47, 3) := by decide +kernel
theorem dX6_deliver_15 : decode cX6_deliver 15 = .ok (.getfield 106, 3) := by decide +kernel
theorem dX6_deliver_18 : decode cX6_deliver 18 = .ok (.if_icmp .ge 100, 3) := by decide +kernel
theorem dX6_deliver_21 : decode cX6_deliver 21 = .ok (.aload_n 0, 1) := by decide +kernel
theorem dX6_deliver_22 : decode cX6_deliver 22 = .ok (.getfield 54, 3) := by decide +kernel
theorem dX6_deliver_25 : decode cX6_deliver 25 = .ok (.aload_n 0, 1) := by decide +kernel
theorem dX6_deliver_26 : decode cX6_deliver 26 = .ok (.getfield 47, 3) := by decide +kernel
theorem dX6_deliver_29 : decode cX6_deliver 29 = .ok (.iload_n 1, 1) := by decide +kernel
theorem dX6_deliver_30 : decode cX6_deliver 30 = .ok (.aload_n 0, 1) := by decide +kernel
theorem dX6_deliver_31 : decode cX6_deliver 31 = .ok (.getfield 40, 3) := by decide +kernel
theorem dX6_deliver_34 : decode cX6_deliver 34 = .ok (.getfield 163, 3) := by decide +kernel
theorem dX6_deliver_37 : decode cX6_deliver 37 = .ok (.invokevirtual 166, 3) := by decide +kernel
theorem dX6_deliver_40 : decode cX6_deliver 40 = .ok (.aload_n 0, 1) := by decide +kernel
theorem dX6_deliver_41 : decode cX6_deliver 41 = .ok (.getfield 54, 3) := by decide +kernel
theorem dX6_deliver_44 : decode cX6_deliver 44 = .ok (.getfield 170, 3) := by decide +kernel
theorem dX6_deliver_47 : decode cX6_deliver 47 = .ok (.ifCond .eq 9, 3) := by decide +kernel
theorem dX6_deliver_50 : decode cX6_deliver 50 = .ok (.iinc 1 1, 3) := by decide +kernel
theorem dX6_deliver_53 : decode cX6_deliver 53 = .ok (.goto 59, 3) := by decide +kernel
theorem dX6_deliver_56 : decode cX6_deliver 56 = .ok (.aload_n 0, 1) := by decide +kernel
theorem dX6_deliver_57 : decode cX6_deliver 57 = .ok (.dup, 1) := by decide +kernel
theorem dX6_deliver_58 : decode cX6_deliver 58 = .ok (.getfield 82, 3) := by decide +kernel
theorem dX6_deliver_61 : decode cX6_deliver 61 = .ok (.aload_n 0, 1) := by decide +kernel
theorem dX6_deliver_62 : decode cX6_deliver 62 = .ok (.getfield 54, 3) := by decide +kernel
theorem dX6_deliver_65 : decode cX6_deliver 65 = .ok (.getfield 173, 3) := by decide +kernel
theorem dX6_deliver_68 : decode cX6_deliver 68 = .ok (.aload_n 0, 1) := by decide +kernel
theorem dX6_deliver_69 : decode cX6_deliver 69 = .ok (.getfield 47, 3) := by decide +kernel
theorem dX6_deliver_72 : decode cX6_deliver 72 = .ok (.iload_n 1, 1) := by decide +kernel
theorem dX6_deliver_73 : decode cX6_deliver 73 = .ok (.iconst 5, 1) := by decide +kernel
theorem dX6_deliver_74 : decode cX6_deliver 74 = .ok (.invokevirtual 176, 3) := by decide +kernel
theorem dX6_deliver_77 : decode cX6_deliver 77 = .ok (.imul, 1) := by decide +kernel
theorem dX6_deliver_78 : decode cX6_deliver 78 = .ok (.iadd, 1) := by decide +kernel
theorem dX6_deliver_79 : decode cX6_deliver 79 = .ok (.putfield 82, 3) := by decide +kernel
theorem dX6_deliver_82 : decode cX6_deliver 82 = .ok (.aload_n 0, 1) := by decide +kernel
theorem dX6_deliver_83 : decode cX6_deliver 83 = .ok (.dup, 1) := by decide +kernel
theorem dX6_deliver_84 : decode cX6_deliver 84 = .ok (.getfield 79, 3) := by decide +kernel
theorem dX6_deliver_87 : decode cX6_deliver 87 = .ok (.iconst 1, 1) := by decide +kernel
theorem dX6_deliver_88 : decode cX6_deliver 88 = .ok (.iadd, 1) := by decide +kernel
theorem dX6_deliver_89 : decode cX6_deliver 89 = .ok (.putfield 79, 3) := by decide +kernel
theorem dX6_deliver_92 : decode cX6_deliver 92 = .ok (.aload_n 0, 1) := by decide +kernel
theorem dX6_deliver_93 : decode cX6_deliver 93 = .ok (.getfield 40, 3) := by decide +kernel
theorem dX6_deliver_96 : decode cX6_deliver 96 = .ok (.aload_n 0, 1) := by decide +kernel
theorem dX6_deliver_97 : decode cX6_deliver 97 = .ok (.getfield 54, 3) := by decide +kernel
theorem dX6_deliver_100 : decode cX6_deliver 100 = .ok (.invokevirtual 179, 3) := by decide +kernel
theorem dX6_deliver_103 : decode cX6_deliver 103 = .ok (.aload_n 0, 1) := by decide +kernel
theorem dX6_deliver_104 : decode cX6_deliver 104 = .ok (.getfield 47, 3) := by decide +kernel
theorem dX6_deliver_107 : decode cX6_deliver 107 = .ok (.iload_n 1, 1) := by decide +kernel
theorem dX6_deliver_108 : decode cX6_deliver 108 = .ok (.invokevirtual 183, 3) := by decide +kernel
theorem dX6_deliver_111 : decode cX6_deliver 111 = .ok (.pop, 1) := by decide +kernel
theorem dX6_deliver_112 : decode cX6_deliver 112 = .ok (.iinc 2 1, 3) := by decide +kernel
theorem dX6_deliver_115 : decode cX6_deliver 115 = .ok (.goto (-111), 3) := by decide +kernel
theorem dX6_deliver_118 : decode cX6_deliver 118 = .ok (.return_, 1) := by decide +kernel
set_option maxRecDepth 20000 in
theorem ggX7_init_X6_init : GoodIn wsX7_init wsX6_init := goodIn_r _ [11, 12, 2, 3, 13, 14, 15, 16, 17, 18, 19, 20, 21, 22, 23, 24, 25, 26, 27, 28, 29, 30, 31, 32, 33, 34, 35, 36, 37, 38, 39, 40, 41, 42, 43, 44, 45, 46, 47, 48, 49, 50, 51, 52, 53, 54, 55, 56, 57, 58, 59, 60, 61, 62, 63, 64, 65, 66, 67, 68, 69, 70, 71, 74, 75, 76, 77, 78, 79, 80, 81, 82, 83, 84, 85, 86, 87, 88, 89, 90, 91, 92, 93, 94, 95, 96, 97, 98, 99, 100, 101, 102, 103, 104, 105, 106] (by decide +kernel) (by decide +kernel)
set_option maxRecDepth 20000 in
theorem gX7_init_X6_init_n21 : GoodIn wsX7_init (wsX6_init) := ggX7_init_X6_init
theorem dX7_init_0 : decode cX7_init 0 = .ok (.aload_n 0, 1) := by decide +kernel
theorem dX7_init_1 : decode cX7_init 1 = .ok (.invokespecial 3, 3) := by decide +kernel
theorem dX7_init_4 : decode cX7_init 4 = .ok (.aload_n 0, 1) := by decide +kernel
theorem dX7_init_5 : decode cX7_init 5 = .ok (.iconst 2, 1) := by decide +kernel
theorem dX7_init_6 : decode cX7_init 6 = .ok (.anewarray 9, 3) := by decide +kernel
theorem dX7_init_9 : decode cX7_init 9 = .ok (.putfield 11, 3) := by decide +kernel
theorem dX7_init_12 : decode cX7_init 12 = .ok (.aload_n 0, 1) := by decide +kernel
theorem dX7_init_13 : decode cX7_init 13 = .ok (.iconst 2, 1) := by decide +kernel
theorem dX7_init_14 : decode cX7_init 14 = .ok (.newarray .boolean, 2) := by decide +kernel
theorem dX7_init_16 : decode cX7_init 16 = .ok (.putfield 17, 3) := by decide +kernel
theorem dX7_init_19 : decode cX7_init 19 = .ok (.iconst 0, 1) := by decide +kernel
theorem dX7_init_20 : decode cX7_init 20 = .ok (.istore_n 1, 1) := by decide +kernel
theorem dX7_init_21 : decode cX7_init 21 = .ok (.iload_n 1, 1) := by decide +kernel
theorem dX7_init_22 : decode cX7_init 22 = .ok (.iconst 2, 1) := by decide +kernel
theorem dX7_init_23 : decode cX7_init 23 = .ok (.if_icmp .ge 22, 3) := by decide +kernel
theorem dX7_init_26 : decode cX7_init 26 = .ok (.aload_n 0, 1) := by decide +kernel
theorem dX7_init_27 : decode cX7_init 27 = .ok (.getfield 11, 3) := by decide +kernel
theorem dX7_init_30 : decode cX7_init 30 = .ok (.iload_n 1, 1) := by decide +kernel
theorem dX7_init_31 : decode cX7_init 31 = .ok (.new 9, 3) := by decide +kernel
theorem dX7_init_34 : decode cX7_init 34 = .ok (.dup, 1) := by decide +kernel
theorem dX7_init_35 : decode cX7_init 35 = .ok (.invokespecial 21, 3) := by decide +kernel
theorem dX7_init_38 : decode cX7_init 38 = .ok (.aastore, 1) := by decide +kernel
theorem dX7_init_39 : decode cX7_init 39 = .ok (.iinc 1 1, 3) := by decide +kernel
theorem dX7_init_42 : decode cX7_init 42 = .ok (.goto (-21), 3) := by decide +kernel
theorem dX7_init_45 : decode cX7_init 45 = .ok (.return_, 1) := by decide +kernel
set_option maxRecDepth 20000 in
theorem ggX7_has_X9_within : GoodIn wsX7_has wsX9_within := goodIn_r _ [3] (by decide +kernel) (by decide +kernel)
set_option maxRecDepth 20000 in
theorem gX7_has_X9_within_n22 : GoodIn wsX7_has (wsX9_within) := ggX7_has_X9_within
theorem dX7_has_0 : decode cX7_has 0 = .ok (.iload_n 1, 1) := by decide +kernel
theorem dX7_has_1 : decode cX7_has 1 = .ok (.iconst 0, 1) := by decide +kernel
theorem dX7_has_2 : decode cX7_has 2 = .ok (.iconst 1, 1) := by decide +kernel
theorem dX7_has_3 : decode cX7_has 3 = .ok (.invokestatic 22, 3) := by decide +kernel
theorem dX7_has_6 : decode cX7_has 6 = .ok (.ireturn, 1) := by decide +kernel
set_option maxRecDepth 20000 in
theorem ggX7_fill_X7_has : GoodIn wsX7_fill wsX7_has := goodIn_r _ [7, 8, 9, 10] (by decide +kernel) (by decide +kernel)
set_option maxRecDepth 20000 in
theorem gX7_fill_X7_has : GoodIn wsX7_fill (wsV RX7 26 RX7 yX7_has wsX7_has) := goodIn_app (goodIn_of _ (by decide +kernel)) ggX7_fill_X7_has
set_option maxRecDepth 20000 in
theorem ggX7_fill_X6_copyFrom : GoodIn wsX7_fill wsX6_copyFrom := goodIn_r _ [15, 16, 17, 18, 19, 20, 21, 22, 23, 24, 25, 9, 26, 27, 28, 29, 30, 31, 32, 33, 34, 35, 36, 37, 38, 39, 40, 41, 42, 43, 44, 45, 46, 47, 48, 49, 50, 51, 52, 53, 54, 55, 56, 57, 58, 59, 60, 61, 62, 63, 64, 65, 66, 67, 68, 69, 72, 73, 74, 75, 76, 77, 78, 79, 80, 81, 82, 83, 84, 85, 86, 87, 88, 89, 90, 91, 92, 93, 94, 95, 96] (by decide +kernel) (by decide +kernel)
set_option maxRecDepth 20000 in
theorem gX7_fill_X6_copyFrom : GoodIn wsX7_fill (wsV RX7 30 RX6 yX6_copyFrom wsX6_copyFrom) := goodIn_app (goodIn_of _ (by decide +kernel)) ggX7_fill_X6_copyFrom
theorem dX7_fill_0 : decode cX7_fill 0 = .ok (.aload_n 0, 1) := by decide +kernel
theorem dX7_fill_1 : decode cX7_fill 1 = .ok (.iload_n 1, 1) := by decide +kernel
theorem dX7_fill_2 : decode cX7_fill 2 = .ok (.invokevirtual 26, 3) := by decide +kernel
theorem dX7_fill_5 : decode cX7_fill 5 = .ok (.ifCond .eq 20, 3) := by decide +kernel
theorem dX7_fill_8 : decode cX7_fill 8 = .ok (.aload_n 0, 1) := by decide +kernel
theorem dX7_fill_9 : decode cX7_fill 9 = .ok (.getfield 11, 3) := by decide +kernel
theorem dX7_fill_12 : decode cX7_fill 12 = .ok (.iload_n 1, 1) := by decide +kernel
theorem dX7_fill_13 : decode cX7_fill 13 = .ok (.aaload, 1) := by decide +kernel
theorem dX7_fill_14 : decode cX7_fill 14 = .ok (.aload_n 2, 1) := by decide +kernel
theorem dX7_fill_15 : decode cX7_fill 15 = .ok (.invokevirtual 30, 3) := by decide +kernel
theorem dX7_fill_18 : decode cX7_fill 18 = .ok (.aload_n 0, 1) := by decide +kernel
theorem dX7_fill_19 : decode cX7_fill 19 = .ok (.getfield 17, 3) := by decide +kernel
theorem dX7_fill_22 : decode cX7_fill 22 = .ok (.iload_n 1, 1) := by decide +kernel
theorem dX7_fill_23 : decode cX7_fill 23 = .ok (.iconst 1, 1) := by decide +kernel
theorem dX7_fill_24 : decode cX7_fill 24 = .ok (.bastore, 1) := by decide +kernel
theorem dX7_fill_25 : decode cX7_fill 25 = .ok (.return_, 1) := by decide +kernel
set_option maxRecDepth 20000 in
theorem ggX8_init_J7_fill_53178 : GoodIn wsX8_init wsJ7_fill_53178 := goodIn_r _ [12] (by decide +kernel) (by decide +kernel)
set_option maxRecDepth 20000 in
theorem gX8_init_J7_fill_53178 : GoodIn wsX8_init (va_wsS RX8 24 yJ7_fill_53178 wsJ7_fill_53178) := goodIn_app (goodIn_of _ (by decide +kernel)) ggX8_init_J7_fill_53178
theorem dX8_init_0 : decode cX8_init 0 = .ok (.aload_n 0, 1) := by decide +kernel
theorem dX8_init_1 : decode cX8_init 1 = .ok (.invokespecial 3, 3) := by decide +kernel
theorem dX8_init_4 : decode cX8_init 4 = .ok (.aload_n 0, 1) := by decide +kernel
theorem dX8_init_5 : decode cX8_init 5 = .ok (.bipush 20, 2) := by decide +kernel
theorem dX8_init_7 : decode cX8_init 7 = .ok (.newarray .int, 2) := by decide +kernel
theorem dX8_init_9 : decode cX8_init 9 = .ok (.putfield 9, 3) := by decide +kernel
theorem dX8_init_12 : decode cX8_init 12 = .ok (.aload_n 0, 1) := by decide +kernel
theorem dX8_init_13 : decode cX8_init 13 = .ok (.bipush 20, 2) := by decide +kernel
theorem dX8_init_15 : decode cX8_init 15 = .ok (.newarray .int, 2) := by decide +kernel
theorem dX8_init_17 : decode cX8_init 17 = .ok (.putfield 15, 3) := by decide +kernel
theorem dX8_init_20 : decode cX8_init 20 = .ok (.aload_n 0, 1) := by decide +kernel
theorem dX8_init_21 : decode cX8_init 21 = .ok (.bipush 20, 2) := by decide +kernel
theorem dX8_init_23 : decode cX8_init 23 = .ok (.newarray .int, 2) := by decide +kernel
theorem dX8_init_25 : decode cX8_init 25 = .ok (.putfield 18, 3) := by decide +kernel
theorem dX8_init_28 : decode cX8_init 28 = .ok (.aload_n 0, 1) := by decide +kernel
theorem dX8_init_29 : decode cX8_init 29 = .ok (.bipush 20, 2) := by decide +kernel
theorem dX8_init_31 : decode cX8_init 31 = .ok (.newarray .int, 2) := by decide +kernel
theorem dX8_init_33 : decode cX8_init 33 = .ok (.putfield 21, 3) := by decide +kernel
theorem dX8_init_36 : decode cX8_init 36 = .ok (.aload_n 0, 1) := by decide +kernel
theorem dX8_init_37 : decode cX8_init 37 = .ok (.getfield 9, 3) := by decide +kernel
theorem dX8_init_40 : decode cX8_init 40 = .ok (.bipush (-6), 2) := by decide +kernel
theorem dX8_init_42 : decode cX8_init 42 = .ok (.invokestatic 24, 3) := by decide +kernel
theorem dX8_init_45 : decode cX8_init 45 = .ok (.return_, 1) := by decide +kernel
set_option maxRecDepth 20000 in
theorem ggX8_copyFrom_X9_copyAll : GoodIn wsX8_copyFrom wsX9_copyAll := goodIn_r _ [7, 8, 9, 10, 11, 12, 13, 14, 15] (by decide +kernel) (by decide +kernel)
set_option maxRecDepth 20000 in
theorem gX8_copyFrom_X9_copyAll_n30 : GoodIn wsX8_copyFrom (wsX9_copyAll) := ggX8_copyFrom_X9_copyAll
theorem dX8_copyFrom_0 : decode cX8_copyFrom 0 = .ok (.aload_n 1, 1) := by decide +kernel
theorem dX8_copyFrom_1 : decode cX8_copyFrom 1 = .ok (.getfield 9, 3) := by decide +kernel
theorem dX8_copyFrom_4 : decode cX8_copyFrom 4 = .ok (.aload_n 0, 1) := by decide +kernel
theorem dX8_copyFrom_5 : decode cX8_copyFrom 5 = .ok (.getfield 9, 3) := by decide +kernel
theorem dX8_copyFrom_8 : decode cX8_copyFrom 8 = .ok (.invokestatic 30, 3) := by decide +kernel
theorem dX8_copyFrom_11 : decode cX8_copyFrom 11 = .ok (.aload_n 1, 1) := by decide +kernel
theorem dX8_copyFrom_12 : decode cX8_copyFrom 12 = .ok (.getfield 15, 3) := by decide +kernel
theorem dX8_copyFrom_15 : decode cX8_copyFrom 15 = .ok (.aload_n 0, 1) := by decide +kernel
theorem dX8_copyFrom_16 : decode cX8_copyFrom 16 = .ok (.getfield 15, 3) := by decide +kernel
theorem dX8_copyFrom_19 : decode cX8_copyFrom 19 = .ok (.invokestatic 30, 3) := by decide +kernel
theorem dX8_copyFrom_22 : decode cX8_copyFrom 22 = .ok (.aload_n 1, 1) := by decide +kernel
theorem dX8_copyFrom_23 : decode cX8_copyFrom 23 = .ok (.getfield 18, 3) := by decide +kernel
theorem dX8_copyFrom_26 : decode cX8_copyFrom 26 = .ok (.aload_n 0, 1) := by decide +kernel
theorem dX8_copyFrom_27 : decode cX8_copyFrom 27 = .ok (.getfield 18, 3) := by decide +kernel
theorem dX8_copyFrom_30 : decode cX8_copyFrom 30 = .ok (.invokestatic 30, 3) := by decide +kernel
theorem dX8_copyFrom_33 : decode cX8_copyFrom 33 = .ok (.aload_n 1, 1) := by decide +kernel
theorem dX8_copyFrom_34 : decode cX8_copyFrom 34 = .ok (.getfield 21, 3) := by decide +kernel
theorem dX8_copyFrom_37 : decode cX8_copyFrom 37 = .ok (.aload_n 0, 1) := by decide +kernel
theorem dX8_copyFrom_38 : decode cX8_copyFrom 38 = .ok (.getfield 21, 3) := by decide +kernel
theorem dX8_copyFrom_41 : decode cX8_copyFrom 41 = .ok (.invokestatic 30, 3) := by decide +kernel
theorem dX8_copyFrom_44 : decode cX8_copyFrom 44 = .ok (.return_, 1) := by decide +kernel
set_option maxRecDepth 20000 in
theorem ggX8_isAway_X9_within : GoodIn wsX8_isAway wsX9_within := goodIn_r _ [4] (by decide +kernel) (by decide +kernel)
set_option maxRecDepth 20000 in
theorem gX8_isAway_X9_within_n34 : GoodIn wsX8_isAway (wsX9_within) := ggX8_isAway_X9_within
theorem dX8_isAway_0 : decode cX8_isAway 0 = .ok (.iload_n 1, 1) := by decide +kernel
theorem dX8_isAway_1 : decode cX8_isAway 1 = .ok (.iconst 0, 1) := by decide +kernel
theorem dX8_isAway_2 : decode cX8_isAway 2 = .ok (.bipush 19, 2) := by decide +kernel
theorem dX8_isAway_4 : decode cX8_isAway 4 = .ok (.invokestatic 34, 3) := by decide +kernel
theorem dX8_isAway_7 : decode cX8_isAway 7 = .ok (.ifCond .eq 18, 3) := by decide +kernel
theorem dX8_isAway_10 : decode cX8_isAway 10 = .ok (.aload_n 0, 1) := by decide +kernel
theorem dX8_isAway_11 : decode cX8_isAway 11 = .ok (.getfield 9, 3) := by decide +kernel
theorem dX8_isAway_14 : decode cX8_isAway 14 = .ok (.iload_n 1, 1) := by decide +kernel
theorem dX8_isAway_15 : decode cX8_isAway 15 = .ok (.iaload, 1) := by decide +kernel
theorem dX8_isAway_16 : decode cX8_isAway 16 = .ok (.bipush (-6), 2) := by decide +kernel
theorem dX8_isAway_18 : decode cX8_isAway 18 = .ok (.if_icmp .eq 7, 3) := by decide +kernel
theorem dX8_isAway_21 : decode cX8_isAway 21 = .ok (.iconst 1, 1) := by decide +kernel
theorem dX8_isAway_22 : decode cX8_isAway 22 = .ok (.goto 4, 3) := by decide +kernel
theorem dX8_isAway_25 : decode cX8_isAway 25 = .ok (.iconst 0, 1) := by decide +kernel
theorem dX8_isAway_26 : decode cX8_isAway 26 = .ok (.ireturn, 1) := by decide +kernel
set_option maxRecDepth 20000 in
theorem ggX8_send_X9_within : GoodIn wsX8_send wsX9_within := goodIn_r _ [7] (by decide +kernel) (by decide +kernel)
set_option maxRecDepth 20000 in
theorem gX8_send_X9_within_n34 : GoodIn wsX8_send (wsX9_within) := ggX8_send_X9_within
theorem dX8_send_0 : decode cX8_send 0 = .ok (.iload_n 1, 1) := by decide +kernel
theorem dX8_send_1 : decode cX8_send 1 = .ok (.iconst 0, 1) := by decide +kernel
theorem dX8_send_2 : decode cX8_send 2 = .ok (.bipush 19, 2) := by decide +kernel
theorem dX8_send_4 : decode cX8_send 4 = .ok (.invokestatic 34, 3) := by decide +kernel
theorem dX8_send_7 : decode cX8_send 7 = .ok (.ifCond .eq 35, 3) := by decide +kernel
theorem dX8_send_10 : decode cX8_send 10 = .ok (.aload_n 0, 1) := by decide +kernel
theorem dX8_send_11 : decode cX8_send 11 = .ok (.getfield 9, 3) := by decide +kernel
theorem dX8_send_14 : decode cX8_send 14 = .ok (.iload_n 1, 1) := by decide +kernel
theorem dX8_send_15 : decode cX8_send 15 = .ok (.iload_n 2, 1) := by decide +kernel
theorem dX8_send_16 : decode cX8_send 16 = .ok (.iastore, 1) := by decide +kernel
theorem dX8_send_17 : decode cX8_send 17 = .ok (.aload_n 0, 1) := by decide +kernel
theorem dX8_send_18 : decode cX8_send 18 = .ok (.getfield 15, 3) := by decide +kernel
theorem dX8_send_21 : decode cX8_send 21 = .ok (.iload_n 1, 1) := by decide +kernel
theorem dX8_send_22 : decode cX8_send 22 = .ok (.iload_n 3, 1) := by decide +kernel
theorem dX8_send_23 : decode cX8_send 23 = .ok (.iastore, 1) := by decide +kernel
theorem dX8_send_24 : decode cX8_send 24 = .ok (.aload_n 0, 1) := by decide +kernel
theorem dX8_send_25 : decode cX8_send 25 = .ok (.getfield 18, 3) := by decide +kernel
theorem dX8_send_28 : decode cX8_send 28 = .ok (.iload_n 1, 1) := by decide +kernel
theorem dX8_send_29 : decode cX8_send 29 = .ok (.iload 4, 2) := by decide +kernel
theorem dX8_send_31 : decode cX8_send 31 = .ok (.iastore, 1) := by decide +kernel
theorem dX8_send_32 : decode cX8_send 32 = .ok (.aload_n 0, 1) := by decide +kernel
theorem dX8_send_33 : decode cX8_send 33 = .ok (.getfield 21, 3) := by decide +kernel
theorem dX8_send_36 : decode cX8_send 36 = .ok (.iload_n 1, 1) := by decide +kernel
theorem dX8_send_37 : decode cX8_send 37 = .ok (.dup2, 1) := by decide +kernel
theorem dX8_send_38 : decode cX8_send 38 = .ok (.iaload, 1) := by decide +kernel
theorem dX8_send_39 : decode cX8_send 39 = .ok (.iconst 1, 1) := by decide +kernel
theorem dX8_send_40 : decode cX8_send 40 = .ok (.iadd, 1) := by decide +kernel
theorem dX8_send_41 : decode cX8_send 41 = .ok (.iastore, 1) := by decide +kernel
theorem dX8_send_42 : decode cX8_send 42 = .ok (.return_, 1) := by decide +kernel
theorem dX8_awayFrom_0 : decode cX8_awayFrom 0 = .ok (.iconst 0, 1) := by decide +kernel
theorem dX8_awayFrom_1 : decode cX8_awayFrom 1 = .ok (.istore_n 2, 1) := by decide +kernel
theorem dX8_awayFrom_2 : decode cX8_awayFrom 2 = .ok (.iconst 0, 1) := by decide +kernel
theorem dX8_awayFrom_3 : decode cX8_awayFrom 3 = .ok (.istore_n 3, 1) := by decide +kernel
theorem dX8_awayFrom_4 : decode cX8_awayFrom 4 = .ok (.iload_n 3, 1) := by decide +kernel
theorem dX8_awayFrom_5 : decode cX8_awayFrom 5 = .ok (.bipush 20, 2) := by decide +kernel
theorem dX8_awayFrom_7 : decode cX8_awayFrom 7 = .ok (.if_icmp .ge 22, 3) := by decide +kernel
theorem dX8_awayFrom_10 : decode cX8_awayFrom 10 = .ok (.aload_n 0, 1) := by decide +kernel
theorem dX8_awayFrom_11 : decode cX8_awayFrom 11 = .ok (.getfield 9, 3) := by decide +kernel
theorem dX8_awayFrom_14 : decode cX8_awayFrom 14 = .ok (.iload_n 3, 1) := by decide +kernel
theorem dX8_awayFrom_15 : decode cX8_awayFrom 15 = .ok (.iaload, 1) := by decide +kernel
theorem dX8_awayFrom_16 : decode cX8_awayFrom 16 = .ok (.iload_n 1, 1) := by decide +kernel
theorem dX8_awayFrom_17 : decode cX8_awayFrom 17 = .ok (.if_icmp .ne 6, 3) := by decide +kernel
theorem dX8_awayFrom_20 : decode cX8_awayFrom 20 = .ok (.iinc 2 1, 3) := by decide +kernel
theorem dX8_awayFrom_23 : decode cX8_awayFrom 23 = .ok (.iinc 3 1, 3) := by decide +kernel
theorem dX8_awayFrom_26 : decode cX8_awayFrom 26 = .ok (.goto (-22), 3) := by decide +kernel
theorem dX8_awayFrom_29 : decode cX8_awayFrom 29 = .ok (.iload_n 2, 1) := by decide +kernel
theorem dX8_awayFrom_30 : decode cX8_awayFrom 30 = .ok (.ireturn, 1) := by decide +kernel
set_option maxRecDepth 20000 in
theorem ggX8_awayInAll_X8_awayFrom : GoodIn wsX8_awayInAll wsX8_awayFrom := goodIn_r _ [5, 6, 7, 8, 9, 10] (by decide +kernel) (by decide +kernel)
set_option maxRecDepth 20000 in
theorem gX8_awayInAll_X8_awayFrom : GoodIn wsX8_awayInAll (wsV RX8 38 RX8 yX8_awayFrom wsX8_awayFrom) := goodIn_app (goodIn_of _ (by decide +kernel)) ggX8_awayInAll_X8_awayFrom
theorem dX8_awayInAll_0 : decode cX8_awayInAll 0 = .ok (.bipush 20, 2) := by decide +kernel
theorem dX8_awayInAll_2 : decode cX8_awayInAll 2 = .ok (.aload_n 0, 1) := by decide +kernel
theorem dX8_awayInAll_3 : decode cX8_awayInAll 3 = .ok (.bipush (-6), 2) := by decide +kernel
theorem dX8_awayInAll_5 : decode cX8_awayInAll 5 = .ok (.invokevirtual 38, 3) := by decide +kernel
theorem dX8_awayInAll_8 : decode cX8_awayInAll 8 = .ok (.isub, 1) := by decide +kernel
theorem dX8_awayInAll_9 : decode cX8_awayInAll 9 = .ok (.ireturn, 1) := by decide +kernel
theorem dX8_leastSetting_0 : decode cX8_leastSetting 0 = .ok (.iconst 0, 1) := by decide +kernel
theorem dX8_leastSetting_1 : decode cX8_leastSetting 1 = .ok (.istore_n 1, 1) := by decide +kernel
theorem dX8_leastSetting_2 : decode cX8_leastSetting 2 = .ok (.iconst 0, 1) := by decide +kernel
theorem dX8_leastSetting_3 : decode cX8_leastSetting 3 = .ok (.istore_n 2, 1) := by decide +kernel
theorem dX8_leastSetting_4 : decode cX8_leastSetting 4 = .ok (.iload_n 2, 1) := by decide +kernel
theorem dX8_leastSetting_5 : decode cX8_leastSetting 5 = .ok (.bipush 20, 2) := by decide +kernel
theorem dX8_leastSetting_7 : decode cX8_leastSetting 7 = .ok (.if_icmp .ge 24, 3) := by decide +kernel
theorem dX8_leastSetting_10 : decode cX8_leastSetting 10 = .ok (.aload_n 0, 1) := by decide +kernel
theorem dX8_leastSetting_11 : decode cX8_leastSetting 11 = .ok (.getfield 9, 3) := by decide +kernel
theorem dX8_leastSetting_14 : decode cX8_leastSetting 14 = .ok (.iload_n 2, 1) := by decide +kernel
theorem dX8_leastSetting_15 : decode cX8_leastSetting 15 = .ok (.iaload, 1) := by decide +kernel
theorem dX8_leastSetting_16 : decode cX8_leastSetting 16 = .ok (.bipush (-6), 2) := by decide +kernel
theorem dX8_leastSetting_18 : decode cX8_leastSetting 18 = .ok (.if_icmp .eq 7, 3) := by decide +kernel
theorem dX8_leastSetting_21 : decode cX8_leastSetting 21 = .ok (.iload_n 2, 1) := by decide +kernel
theorem dX8_leastSetting_22 : decode cX8_leastSetting 22 = .ok (.iconst 1, 1) := by decide +kernel
theorem dX8_leastSetting_23 : decode cX8_leastSetting 23 = .ok (.iadd, 1) := by decide +kernel
theorem dX8_leastSetting_24 : decode cX8_leastSetting 24 = .ok (.istore_n 1, 1) := by decide +kernel
theorem dX8_leastSetting_25 : decode cX8_leastSetting 25 = .ok (.iinc 2 1, 3) := by decide +kernel
theorem dX8_leastSetting_28 : decode cX8_leastSetting 28 = .ok (.goto (-24), 3) := by decide +kernel
theorem dX8_leastSetting_31 : decode cX8_leastSetting 31 = .ok (.iload_n 1, 1) := by decide +kernel
theorem dX8_leastSetting_32 : decode cX8_leastSetting 32 = .ok (.ireturn, 1) := by decide +kernel
set_option maxRecDepth 20000 in
theorem ggX9_init_X6_init : GoodIn wsX9_init wsX6_init := goodIn_r _ [22, 23, 2, 3, 24, 25, 26, 27, 28, 29, 30, 31, 32, 33, 34, 35, 36, 37, 38, 39, 40, 41, 42, 43, 44, 45, 46, 47, 48, 49, 50, 51, 52, 53, 54, 55, 56, 57, 58, 59, 60, 61, 62, 63, 64, 65, 66, 67, 68, 69, 70, 71, 72, 73, 74, 75, 76, 77, 78, 79, 80, 81, 82, 103, 104, 105, 106, 107, 108, 109, 110, 111, 112, 129, 130, 131, 132, 133, 134, 135, 136, 137, 138, 139, 140, 141, 142, 143, 144, 145, 146, 147, 148, 149, 150, 151] (by decide +kernel) (by decide +kernel)
set_option maxRecDepth 20000 in
theorem gX9_init_X6_init_n9 : GoodIn wsX9_init (wsX6_init) := ggX9_init_X6_init
set_option maxRecDepth 20000 in
theorem ggX9_init_X4_init : GoodIn wsX9_init wsX4_init := goodIn_r _ [85, 86, 2, 3, 87, 88, 5, 6, 21, 22, 23, 24, 25, 26, 27, 28, 29, 30, 31, 32, 33, 34, 35, 36, 37, 38, 39, 40, 41, 42, 43, 44, 45, 46, 47, 48, 49, 50, 51, 52, 53, 54, 55, 56, 57, 58, 59, 60, 61, 62, 63, 64, 65, 66, 67, 68, 69, 70, 71, 72, 73, 74, 75, 76, 77, 78, 79, 80, 81, 82, 118, 119, 120, 103, 104, 105, 106, 107, 108, 109, 110, 111, 112, 129, 130, 131, 132, 133, 134, 135, 136, 137, 138, 139, 140, 141, 142, 143, 144, 145, 146, 147, 148, 149, 150, 151] (by decide +kernel) (by decide +kernel)
set_option maxRecDepth 20000 in
theorem gX9_init_X4_init : GoodIn wsX9_init (wsX4_init) := ggX9_init_X4_init
set_option maxRecDepth 20000 in
theorem ggX9_init_X7_init : GoodIn wsX9_init wsX7_init := goodIn_r _ [91, 92, 2, 3, 93, 94, 95, 96, 5, 6, 21, 22, 23, 24, 25, 26, 27, 28, 29, 30, 31, 32, 33, 34, 35, 36, 37, 38, 39, 40, 41, 42, 43, 44, 45, 46, 47, 48, 49, 50, 51, 52, 53, 54, 55, 56, 57, 58, 59, 60, 61, 62, 63, 64, 65, 66, 67, 68, 69, 70, 71, 72, 73, 74, 75, 76, 77, 78, 79, 80, 81, 82, 121, 122, 103, 104, 105, 106, 107, 108, 109, 110, 111, 112, 129, 130, 131, 132, 133, 134, 135, 136, 137, 138, 139, 140, 141, 142, 143, 144, 145, 146, 147, 148, 149, 150, 151] (by decide +kernel) (by decide +kernel)
set_option maxRecDepth 20000 in
theorem gX9_init_X7_init : GoodIn wsX9_init (wsX7_init) := ggX9_init_X7_init
set_option maxRecDepth 20000 in
theorem ggX9_init_X5_init : GoodIn wsX9_init wsX5_init := goodIn_r _ [98, 99, 2, 3, 100, 101, 54, 102, 123, 124, 125, 126, 127, 128] (by decide +kernel) (by decide +kernel)
set_option maxRecDepth 20000 in
theorem gX9_init_X5_init_n35 : GoodIn wsX9_init (wsX5_init) := ggX9_init_X5_init
theorem dX9_init_0 : decode cX9_init 0 = .ok (.aload_n 0, 1) := by decide +kernel
theorem dX9_init_1 : decode cX9_init 1 = .ok (.invokespecial 1, 3) := by decide +kernel
theorem dX9_init_4 : decode cX9_init 4 = .ok (.aload_n 0, 1) := by decide +kernel
theorem dX9_init_5 : decode cX9_init 5 = .ok (.new 7, 3) := by decide +kernel
theorem dX9_init_8 : decode cX9_init 8 = .ok (.dup, 1) := by decide +kernel
theorem dX9_init_9 : decode cX9_init 9 = .ok (.invokespecial 9, 3) := by decide +kernel
theorem dX9_init_12 : decode cX9_init 12 = .ok (.putfield 10, 3) := by decide +kernel
theorem dX9_init_15 : decode cX9_init 15 = .ok (.aload_n 0, 1) := by decide +kernel
theorem dX9_init_16 : decode cX9_init 16 = .ok (.new 7, 3) := by decide +kernel
theorem dX9_init_19 : decode cX9_init 19 = .ok (.dup, 1) := by decide +kernel
theorem dX9_init_20 : decode cX9_init 20 = .ok (.invokespecial 9, 3) := by decide +kernel
theorem dX9_init_23 : decode cX9_init 23 = .ok (.putfield 16, 3) := by decide +kernel
theorem dX9_init_26 : decode cX9_init 26 = .ok (.aload_n 0, 1) := by decide +kernel
theorem dX9_init_27 : decode cX9_init 27 = .ok (.new 19, 3) := by decide +kernel
theorem dX9_init_30 : decode cX9_init 30 = .ok (.dup, 1) := by decide +kernel
theorem dX9_init_31 : decode cX9_init 31 = .ok (.invokespecial 21, 3) := by decide +kernel
theorem dX9_init_34 : decode cX9_init 34 = .ok (.putfield 22, 3) := by decide +kernel
theorem dX9_init_37 : decode cX9_init 37 = .ok (.aload_n 0, 1) := by decide +kernel
theorem dX9_init_38 : decode cX9_init 38 = .ok (.new 26, 3) := by decide +kernel
theorem dX9_init_41 : decode cX9_init 41 = .ok (.dup, 1) := by decide +kernel
theorem dX9_init_42 : decode cX9_init 42 = .ok (.invokespecial 28, 3) := by decide +kernel
theorem dX9_init_45 : decode cX9_init 45 = .ok (.putfield 29, 3) := by decide +kernel
theorem dX9_init_48 : decode cX9_init 48 = .ok (.aload_n 0, 1) := by decide +kernel
theorem dX9_init_49 : decode cX9_init 49 = .ok (.new 33, 3) := by decide +kernel
theorem dX9_init_52 : decode cX9_init 52 = .ok (.dup, 1) := by decide +kernel
theorem dX9_init_53 : decode cX9_init 53 = .ok (.invokespecial 35, 3) := by decide +kernel
theorem dX9_init_56 : decode cX9_init 56 = .ok (.putfield 36, 3) := by decide +kernel
theorem dX9_init_59 : decode cX9_init 59 = .ok (.return_, 1) := by decide +kernel
set_option maxRecDepth 20000 in
theorem ggX9_set_X4_prepare : GoodIn wsX9_set wsX4_prepare := goodIn_r _ [7, 8, 9, 10, 11, 12, 13, 14, 15, 16, 17, 18, 19, 20, 21, 22, 23, 24, 25, 26, 27, 28, 29, 30, 31, 32, 33, 34, 35, 36, 37, 38, 39, 40, 41, 42, 43, 44, 45, 46, 47, 48, 49, 50, 51, 52, 53, 54, 55, 56, 57, 58, 59, 60, 61, 62, 63, 64, 65, 66, 67, 68, 69, 70, 71, 95, 96, 97, 98, 99, 100, 101, 102, 103, 104, 105, 106, 107, 108, 109, 110, 111, 112, 113, 114, 115, 116, 117, 118, 119, 120, 121, 122] (by decide +kernel) (by decide +kernel)
set_option maxRecDepth 20000 in
theorem gX9_set_X4_prepare : GoodIn wsX9_set (wsV RX9 40 RX4 yX4_prepare wsX4_prepare) := goodIn_app (goodIn_of _ (by decide +kernel)) ggX9_set_X4_prepare
set_option maxRecDepth 20000 in
theorem ggX9_set_X6_changeSetting : GoodIn wsX9_set wsX6_changeSetting := goodIn_r _ [75, 20, 18, 10, 11, 12, 76, 77, 78, 50, 79, 52, 98, 99, 100, 101, 102, 103, 104, 105, 106, 107, 113, 114, 115, 116] (by decide +kernel) (by decide +kernel)
set_option maxRecDepth 20000 in
theorem gX9_set_X6_changeSetting : GoodIn wsX9_set (wsV RX9 44 RX6 yX6_changeSetting wsX6_changeSetting) := goodIn_app (goodIn_of _ (by decide +kernel)) ggX9_set_X6_changeSetting
set_option maxRecDepth 20000 in
theorem ggX9_set_X9_recorded : GoodIn wsX9_set wsX9_recorded := goodIn_r _ [83, 1, 84, 85, 86, 6, 87, 8, 88, 89, 30, 31, 32, 90, 91, 92, 93, 94, 95, 96, 97] (by decide +kernel) (by decide +kernel)
set_option maxRecDepth 20000 in
theorem gX9_set_X9_recorded : GoodIn wsX9_set (wsV RX9 48 RX9 yX9_recorded wsX9_recorded) := goodIn_app (goodIn_of _ (by decide +kernel)) ggX9_set_X9_recorded
theorem dX9_set_0 : decode cX9_set 0 = .ok (.aload_n 0, 1) := by decide +kernel
theorem dX9_set_1 : decode cX9_set 1 = .ok (.getfield 22, 3) := by decide +kernel
theorem dX9_set_4 : decode cX9_set 4 = .ok (.aload_n 0, 1) := by decide +kernel
theorem dX9_set_5 : decode cX9_set 5 = .ok (.getfield 10, 3) := by decide +kernel
theorem dX9_set_8 : decode cX9_set 8 = .ok (.invokevirtual 40, 3) := by decide +kernel
theorem dX9_set_11 : decode cX9_set 11 = .ok (.aload_n 0, 1) := by decide +kernel
theorem dX9_set_12 : decode cX9_set 12 = .ok (.aload_n 0, 1) := by decide +kernel
theorem dX9_set_13 : decode cX9_set 13 = .ok (.getfield 10, 3) := by decide +kernel
theorem dX9_set_16 : decode cX9_set 16 = .ok (.iload_n 1, 1) := by decide +kernel
theorem dX9_set_17 : decode cX9_set 17 = .ok (.iload_n 2, 1) := by decide +kernel
theorem dX9_set_18 : decode cX9_set 18 = .ok (.invokevirtual 44, 3) := by decide +kernel
theorem dX9_set_21 : decode cX9_set 21 = .ok (.invokevirtual 48, 3) := by decide +kernel
theorem dX9_set_24 : decode cX9_set 24 = .ok (.ireturn, 1) := by decide +kernel
set_option maxRecDepth 20000 in
theorem ggX9_face_X4_prepare : GoodIn wsX9_face wsX4_prepare := goodIn_r _ [8, 9, 10, 11, 12, 13, 14, 15, 16, 17, 18, 19, 20, 21, 22, 23, 24, 25, 26, 27, 28, 29, 30, 31, 32, 33, 34, 35, 36, 37, 38, 39, 40, 41, 42, 43, 44, 45, 46, 47, 48, 49, 50, 51, 52, 53, 54, 55, 56, 57, 58, 59, 60, 61, 62, 63, 64, 65, 66, 67, 68, 69, 70, 71, 72, 102, 103, 104, 92, 93, 94, 95, 96, 97, 98, 99, 100, 101, 105, 106, 107, 108, 109, 110, 111, 112, 113, 114, 115, 116, 117, 118, 119] (by decide +kernel) (by decide +kernel)
set_option maxRecDepth 20000 in
theorem gX9_face_X4_prepare : GoodIn wsX9_face (wsV RX9 40 RX4 yX4_prepare wsX4_prepare) := goodIn_app (goodIn_of _ (by decide +kernel)) ggX9_face_X4_prepare
set_option maxRecDepth 20000 in
theorem ggX9_face_X3_add : GoodIn wsX9_face wsX3_add := goodIn_r _ [76, 47, 43, 44, 45, 46, 11, 12, 13, 105, 106, 107, 108, 109] (by decide +kernel) (by decide +kernel)
set_option maxRecDepth 20000 in
theorem gX9_face_X3_add : GoodIn wsX9_face (wsV RX9 56 RX3 yX3_add wsX3_add) := goodIn_app (goodIn_of _ (by decide +kernel)) ggX9_face_X3_add
set_option maxRecDepth 20000 in
theorem ggX9_face_X9_recorded : GoodIn wsX9_face wsX9_recorded := goodIn_r _ [80, 1, 81, 82, 83, 7, 84, 9, 85, 86, 31, 32, 33, 87, 88, 89, 90, 91, 102, 103, 104] (by decide +kernel) (by decide +kernel)
set_option maxRecDepth 20000 in
theorem gX9_face_X9_recorded : GoodIn wsX9_face (wsV RX9 48 RX9 yX9_recorded wsX9_recorded) := goodIn_app (goodIn_of _ (by decide +kernel)) ggX9_face_X9_recorded
theorem dX9_face_0 : decode cX9_face 0 = .ok (.aload_n 0, 1) := by decide +kernel
theorem dX9_face_1 : decode cX9_face 1 = .ok (.getfield 22, 3) := by decide +kernel
theorem dX9_face_4 : decode cX9_face 4 = .ok (.aload_n 0, 1) := by decide +kernel
theorem dX9_face_5 : decode cX9_face 5 = .ok (.getfield 10, 3) := by decide +kernel
theorem dX9_face_8 : decode cX9_face 8 = .ok (.invokevirtual 40, 3) := by decide +kernel
theorem dX9_face_11 : decode cX9_face 11 = .ok (.aload_n 0, 1) := by decide +kernel
theorem dX9_face_12 : decode cX9_face 12 = .ok (.aload_n 0, 1) := by decide +kernel
theorem dX9_face_13 : decode cX9_face 13 = .ok (.getfield 10, 3) := by decide +kernel
theorem dX9_face_16 : decode cX9_face 16 = .ok (.getfield 52, 3) := by decide +kernel
theorem dX9_face_19 : decode cX9_face 19 = .ok (.iload_n 1, 1) := by decide +kernel
theorem dX9_face_20 : decode cX9_face 20 = .ok (.iload_n 2, 1) := by decide +kernel
theorem dX9_face_21 : decode cX9_face 21 = .ok (.iload_n 3, 1) := by decide +kernel
theorem dX9_face_22 : decode cX9_face 22 = .ok (.invokevirtual 56, 3) := by decide +kernel
theorem dX9_face_25 : decode cX9_face 25 = .ok (.invokevirtual 48, 3) := by decide +kernel
theorem dX9_face_28 : decode cX9_face 28 = .ok (.ireturn, 1) := by decide +kernel
set_option maxRecDepth 20000 in
theorem ggX9_contract_X4_prepare : GoodIn wsX9_contract wsX4_prepare := goodIn_r _ [8, 9, 10, 11, 12, 13, 14, 15, 16, 17, 18, 19, 20, 21, 22, 23, 24, 25, 26, 27, 28, 29, 30, 31, 32, 33, 34, 35, 36, 37, 38, 39, 40, 41, 42, 43, 44, 45, 46, 47, 48, 49, 50, 51, 52, 53, 54, 55, 56, 57, 58, 59, 60, 61, 62, 63, 64, 65, 66, 67, 68, 69, 70, 71, 72, 105, 106, 107, 95, 96, 97, 98, 99, 100, 101, 102, 103, 104, 108, 109, 110, 111, 112, 113, 114, 115, 116, 117, 118, 119, 120, 121, 122] (by decide +kernel) (by decide +kernel)
set_option maxRecDepth 20000 in
theorem gX9_contract_X4_prepare : GoodIn wsX9_contract (wsV RX9 40 RX4 yX4_prepare wsX4_prepare) := goodIn_app (goodIn_of _ (by decide +kernel)) ggX9_contract_X4_prepare
set_option maxRecDepth 20000 in
theorem ggX9_contract_X1_add : GoodIn wsX9_contract wsX1_add := goodIn_r _ [76, 72, 71, 11, 12, 13, 77, 78, 69, 79, 121, 122] (by decide +kernel) (by decide +kernel)
set_option maxRecDepth 20000 in
theorem gX9_contract_X1_add : GoodIn wsX9_contract (wsV RX9 66 RX1 yX1_add wsX1_add) := goodIn_app (goodIn_of _ (by decide +kernel)) ggX9_contract_X1_add
set_option maxRecDepth 20000 in
theorem ggX9_contract_X9_recorded : GoodIn wsX9_contract wsX9_recorded := goodIn_r _ [83, 1, 84, 85, 86, 7, 87, 9, 88, 89, 31, 32, 33, 90, 91, 92, 93, 94, 105, 106, 107] (by decide +kernel) (by decide +kernel)
set_option maxRecDepth 20000 in
theorem gX9_contract_X9_recorded : GoodIn wsX9_contract (wsV RX9 48 RX9 yX9_recorded wsX9_recorded) := goodIn_app (goodIn_of _ (by decide +kernel)) ggX9_contract_X9_recorded
theorem dX9_contract_0 : decode cX9_contract 0 = .ok (.aload_n 0, 1) := by decide +kernel
theorem dX9_contract_1 : decode cX9_contract 1 = .ok (.getfield 22, 3) := by decide +kernel
theorem dX9_contract_4 : decode cX9_contract 4 = .ok (.aload_n 0, 1) := by decide +kernel
theorem dX9_contract_5 : decode cX9_contract 5 = .ok (.getfield 10, 3) := by decide +kernel
theorem dX9_contract_8 : decode cX9_contract 8 = .ok (.invokevirtual 40, 3) := by decide +kernel
theorem dX9_contract_11 : decode cX9_contract 11 = .ok (.aload_n 0, 1) := by decide +kernel
theorem dX9_contract_12 : decode cX9_contract 12 = .ok (.aload_n 0, 1) := by decide +kernel
theorem dX9_contract_13 : decode cX9_contract 13 = .ok (.getfield 10, 3) := by decide +kernel
theorem dX9_contract_16 : decode cX9_contract 16 = .ok (.getfield 62, 3) := by decide +kernel
theorem dX9_contract_19 : decode cX9_contract 19 = .ok (.iload_n 1, 1) := by decide +kernel
theorem dX9_contract_20 : decode cX9_contract 20 = .ok (.iload_n 2, 1) := by decide +kernel
theorem dX9_contract_21 : decode cX9_contract 21 = .ok (.iload_n 3, 1) := by decide +kernel
theorem dX9_contract_22 : decode cX9_contract 22 = .ok (.iload 4, 2) := by decide +kernel
theorem dX9_contract_24 : decode cX9_contract 24 = .ok (.iload 5, 2) := by decide +kernel
theorem dX9_contract_26 : decode cX9_contract 26 = .ok (.iload 6, 2) := by decide +kernel
theorem dX9_contract_28 : decode cX9_contract 28 = .ok (.invokevirtual 66, 3) := by decide +kernel
theorem dX9_contract_31 : decode cX9_contract 31 = .ok (.invokevirtual 48, 3) := by decide +kernel
theorem dX9_contract_34 : decode cX9_contract 34 = .ok (.ireturn, 1) := by decide +kernel
set_option maxRecDepth 20000 in
theorem ggX9_drop_X4_prepare : GoodIn wsX9_drop wsX4_prepare := goodIn_r _ [8, 9, 10, 11, 12, 13, 14, 15, 16, 17, 18, 19, 20, 21, 22, 23, 24, 25, 26, 27, 28, 29, 30, 31, 32, 33, 34, 35, 36, 37, 38, 39, 40, 41, 42, 43, 44, 45, 46, 47, 48, 49, 50, 51, 52, 53, 54, 55, 56, 57, 58, 59, 60, 61, 62, 63, 64, 65, 66, 67, 68, 69, 70, 71, 72, 108, 109, 110, 98, 99, 100, 101, 102, 103, 104, 105, 106, 107, 111, 112, 113, 114, 115, 116, 117, 118, 119, 120, 121, 122, 123, 124, 125] (by decide +kernel) (by decide +kernel)
set_option maxRecDepth 20000 in
theorem gX9_drop_X4_prepare : GoodIn wsX9_drop (wsV RX9 40 RX4 yX4_prepare wsX4_prepare) := goodIn_app (goodIn_of _ (by decide +kernel)) ggX9_drop_X4_prepare
set_option maxRecDepth 20000 in
theorem ggX9_drop_X1_dropOne : GoodIn wsX9_drop wsX1_dropOne := goodIn_r _ [76, 72, 77, 31, 32, 33, 71, 78, 35, 36, 37, 79, 80, 81, 69, 82, 124, 125] (by decide +kernel) (by decide +kernel)
set_option maxRecDepth 20000 in
theorem gX9_drop_X1_dropOne : GoodIn wsX9_drop (wsV RX9 71 RX1 yX1_dropOne wsX1_dropOne) := goodIn_app (goodIn_of _ (by decide +kernel)) ggX9_drop_X1_dropOne
set_option maxRecDepth 20000 in
theorem ggX9_drop_X9_recorded : GoodIn wsX9_drop wsX9_recorded := goodIn_r _ [86, 1, 87, 88, 89, 7, 90, 9, 91, 92, 31, 32, 33, 93, 94, 95, 96, 97, 108, 109, 110] (by decide +kernel) (by decide +kernel)
set_option maxRecDepth 20000 in
theorem gX9_drop_X9_recorded : GoodIn wsX9_drop (wsV RX9 48 RX9 yX9_recorded wsX9_recorded) := goodIn_app (goodIn_of _ (by decide +kernel)) ggX9_drop_X9_recorded
theorem dX9_drop_0 : decode cX9_drop 0 = .ok (.aload_n 0, 1) := by decide +kernel
theorem dX9_drop_1 : decode cX9_drop 1 = .ok (.getfield 22, 3) := by decide +kernel
theorem dX9_drop_4 : decode cX9_drop 4 = .ok (.aload_n 0, 1) := by decide +kernel
theorem dX9_drop_5 : decode cX9_drop 5 = .ok (.getfield 10, 3) := by decide +kernel
theorem dX9_drop_8 : decode cX9_drop 8 = .ok (.invokevirtual 40, 3) := by decide +kernel
theorem dX9_drop_11 : decode cX9_drop 11 = .ok (.aload_n 0, 1) := by decide +kernel
theorem dX9_drop_12 : decode cX9_drop 12 = .ok (.aload_n 0, 1) := by decide +kernel
theorem dX9_drop_13 : decode cX9_drop 13 = .ok (.getfield 10, 3) := by decide +kernel
theorem dX9_drop_16 : decode cX9_drop 16 = .ok (.getfield 62, 3) := by decide +kernel
theorem dX9_drop_19 : decode cX9_drop 19 = .ok (.iload_n 1, 1) := by decide +kernel
theorem dX9_drop_20 : decode cX9_drop 20 = .ok (.invokevirtual 71, 3) := by decide +kernel
theorem dX9_drop_23 : decode cX9_drop 23 = .ok (.invokevirtual 48, 3) := by decide +kernel
theorem dX9_drop_26 : decode cX9_drop 26 = .ok (.ireturn, 1) := by decide +kernel
set_option maxRecDepth 20000 in
theorem ggX9_mend_X4_prepare : GoodIn wsX9_mend wsX4_prepare := goodIn_r _ [8, 9, 10, 11, 12, 13, 14, 15, 16, 17, 18, 19, 20, 21, 22, 23, 24, 25, 26, 27, 28, 29, 30, 31, 32, 33, 34, 35, 36, 37, 38, 39, 40, 41, 42, 43, 44, 45, 46, 47, 48, 49, 50, 51, 52, 53, 54, 55, 56, 57, 58, 59, 60, 61, 62, 63, 64, 65, 66, 67, 68, 69, 70, 71, 72, 102, 103, 104, 92, 93, 94, 95, 96, 97, 98, 99, 100, 101, 105, 106, 107, 108, 109, 110, 111, 112, 113, 114, 115, 116, 117, 118, 119] (by decide +kernel) (by decide +kernel)
set_option maxRecDepth 20000 in
theorem gX9_mend_X4_prepare : GoodIn wsX9_mend (wsV RX9 40 RX4 yX4_prepare wsX4_prepare) := goodIn_app (goodIn_of _ (by decide +kernel)) ggX9_mend_X4_prepare
set_option maxRecDepth 20000 in
theorem ggX9_mend_X2_becomeAsNew : GoodIn wsX9_mend wsX2_becomeAsNew := goodIn_r _ [76, 64, 114, 115, 116, 117] (by decide +kernel) (by decide +kernel)
set_option maxRecDepth 20000 in
theorem gX9_mend_X2_becomeAsNew : GoodIn wsX9_mend (wsV RX9 78 RX2 yX2_becomeAsNew wsX2_becomeAsNew) := goodIn_app (goodIn_of _ (by decide +kernel)) ggX9_mend_X2_becomeAsNew
set_option maxRecDepth 20000 in
theorem ggX9_mend_X9_recorded : GoodIn wsX9_mend wsX9_recorded := goodIn_r _ [80, 1, 81, 82, 83, 7, 84, 9, 85, 86, 31, 32, 33, 87, 88, 89, 90, 91, 102, 103, 104] (by decide +kernel) (by decide +kernel)
set_option maxRecDepth 20000 in
theorem gX9_mend_X9_recorded : GoodIn wsX9_mend (wsV RX9 48 RX9 yX9_recorded wsX9_recorded) := goodIn_app (goodIn_of _ (by decide +kernel)) ggX9_mend_X9_recorded
theorem dX9_mend_0 : decode cX9_mend 0 = .ok (.aload_n 0, 1) := by decide +kernel
theorem dX9_mend_1 : decode cX9_mend 1 = .ok (.getfield 22, 3) := by decide +kernel
theorem dX9_mend_4 : decode cX9_mend 4 = .ok (.aload_n 0, 1) := by decide +kernel
theorem dX9_mend_5 : decode cX9_mend 5 = .ok (.getfield 10, 3) := by decide +kernel
theorem dX9_mend_8 : decode cX9_mend 8 = .ok (.invokevirtual 40, 3) := by decide +kernel
theorem dX9_mend_11 : decode cX9_mend 11 = .ok (.aload_n 0, 1) := by decide +kernel
theorem dX9_mend_12 : decode cX9_mend 12 = .ok (.aload_n 0, 1) := by decide +kernel
theorem dX9_mend_13 : decode cX9_mend 13 = .ok (.getfield 10, 3) := by decide +kernel
theorem dX9_mend_16 : decode cX9_mend 16 = .ok (.getfield 74, 3) := by decide +kernel
theorem dX9_mend_19 : decode cX9_mend 19 = .ok (.invokevirtual 78, 3) := by decide +kernel
theorem dX9_mend_22 : decode cX9_mend 22 = .ok (.invokevirtual 48, 3) := by decide +kernel
theorem dX9_mend_25 : decode cX9_mend 25 = .ok (.ireturn, 1) := by decide +kernel
set_option maxRecDepth 20000 in
theorem ggX9_pass_X4_prepare : GoodIn wsX9_pass wsX4_prepare := goodIn_r _ [7, 8, 9, 10, 11, 12, 13, 14, 15, 16, 17, 18, 19, 20, 21, 22, 23, 24, 25, 26, 27, 28, 29, 30, 31, 32, 33, 34, 35, 36, 37, 38, 39, 40, 41, 42, 43, 44, 45, 46, 47, 48, 49, 50, 51, 52, 53, 54, 55, 56, 57, 58, 59, 60, 61, 62, 63, 64, 65, 66, 67, 68, 69, 70, 71, 201, 202, 203, 204, 205, 206, 207, 208, 209, 210, 211, 212, 213, 214, 215, 216, 217, 218, 219, 220, 221, 222, 223, 224, 225, 226, 227, 228] (by decide +kernel) (by decide +kernel)
set_option maxRecDepth 20000 in
theorem gX9_pass_X4_prepare : GoodIn wsX9_pass (wsV RX9 40 RX4 yX4_prepare wsX4_prepare) := goodIn_app (goodIn_of _ (by decide +kernel)) ggX9_pass_X4_prepare
set_option maxRecDepth 20000 in
theorem ggX9_pass_X6_passDays : GoodIn wsX9_pass wsX6_passDays := goodIn_r _ [75, 23, 18, 10, 11, 12, 76, 77, 78, 16, 79, 24, 22, 80, 21, 81, 82, 83, 84, 20, 85, 86, 19, 87, 88, 89, 90, 91, 40, 92, 46, 93, 94, 95, 59, 96, 61, 97, 98, 99, 100, 101, 30, 31, 32, 102, 26, 103, 104, 105, 50, 106, 52, 107, 108, 109, 110, 42, 111, 112, 113, 114, 115, 43, 116, 117, 118, 119, 120, 53, 54, 55, 121, 122, 123, 124, 125, 126, 127, 128, 129, 63, 130, 131, 132, 133, 134, 135, 136, 62, 64, 137, 138, 139, 140, 141, 142, 143, 25, 144, 145, 146, 147, 148, 149, 150, 151, 152, 153, 154, 155, 156, 157, 158, 159, 160, 161, 162, 68, 163, 70, 164, 165, 166, 167, 71, 168, 169, 170, 171, 172, 173, 174, 175, 176, 177, 178, 179, 180, 181, 182, 183, 184, 185, 34, 35, 36, 204, 205, 206, 207, 208, 209, 210, 211, 212, 213, 227, 228, 219, 220, 221, 222, 214, 215, 216, 217, 218, 223, 224, 225, 226, 229, 230, 231, 232, 233, 234, 235, 236] (by decide +kernel) (by decide +kernel)
set_option maxRecDepth 20000 in
theorem gX9_pass_X6_passDays : GoodIn wsX9_pass (wsV RX9 84 RX6 yX6_passDays wsX6_passDays) := goodIn_app (goodIn_of _ (by decide +kernel)) ggX9_pass_X6_passDays
set_option maxRecDepth 20000 in
theorem ggX9_pass_X9_recorded : GoodIn wsX9_pass wsX9_recorded := goodIn_r _ [189, 1, 190, 191, 192, 6, 193, 8, 194, 195, 30, 31, 32, 196, 197, 198, 199, 200, 201, 202, 203] (by decide +kernel) (by decide +kernel)
set_option maxRecDepth 20000 in
theorem gX9_pass_X9_recorded : GoodIn wsX9_pass (wsV RX9 48 RX9 yX9_recorded wsX9_recorded) := goodIn_app (goodIn_of _ (by decide +kernel)) ggX9_pass_X9_recorded
theorem dX9_pass_0 : decode cX9_pass 0 = .ok (.aload_n 0, 1) := by decide +kernel
theorem dX9_pass_1 : decode cX9_pass 1 = .ok (.getfield 22, 3) := by decide +kernel
theorem dX9_pass_4 : decode cX9_pass 4 = .ok (.aload_n 0, 1) := by decide +kernel
theorem dX9_pass_5 : decode cX9_pass 5 = .ok (.getfield 10, 3) := by decide +kernel
theorem dX9_pass_8 : decode cX9_pass 8 = .ok (.invokevirtual 40, 3) := by decide +kernel
theorem dX9_pass_11 : decode cX9_pass 11 = .ok (.aload_n 0, 1) := by decide +kernel
theorem dX9_pass_12 : decode cX9_pass 12 = .ok (.aload_n 0, 1) := by decide +kernel
theorem dX9_pass_13 : decode cX9_pass 13 = .ok (.getfield 10, 3) := by decide +kernel
theorem dX9_pass_16 : decode cX9_pass 16 = .ok (.iload_n 1, 1) := by decide +kernel
theorem dX9_pass_17 : decode cX9_pass 17 = .ok (.invokevirtual 84, 3) := by decide +kernel
theorem dX9_pass_20 : decode cX9_pass 20 = .ok (.invokevirtual 48, 3) := by decide +kernel
theorem dX9_pass_23 : decode cX9_pass 23 = .ok (.ireturn, 1) := by decide +kernel
set_option maxRecDepth 20000 in
theorem ggX9_ofFace_X3_has : GoodIn wsX9_ofFace wsX3_has := goodIn_r _ [12, 13, 35, 36, 37, 38, 39] (by decide +kernel) (by decide +kernel)
set_option maxRecDepth 20000 in
theorem gX9_ofFace_X3_has : GoodIn wsX9_ofFace (wsV RX9 87 RX3 yX3_has wsX3_has) := goodIn_app (goodIn_of _ (by decide +kernel)) ggX9_ofFace_X3_has
set_option maxRecDepth 20000 in
theorem ggX9_ofFace_X8_awayFrom : GoodIn wsX9_ofFace wsX8_awayFrom := goodIn_r _ [18, 19, 40, 41, 42, 43] (by decide +kernel) (by decide +kernel)
set_option maxRecDepth 20000 in
theorem gX9_ofFace_X8_awayFrom : GoodIn wsX9_ofFace (wsV RX9 105 RX8 yX8_awayFrom wsX8_awayFrom) := goodIn_app (goodIn_of _ (by decide +kernel)) ggX9_ofFace_X8_awayFrom
theorem dX9_ofFace_0 : decode cX9_ofFace 0 = .ok (.aload_n 0, 1) := by decide +kernel
theorem dX9_ofFace_1 : decode cX9_ofFace 1 = .ok (.getfield 10, 3) := by decide +kernel
theorem dX9_ofFace_4 : decode cX9_ofFace 4 = .ok (.getfield 52, 3) := by decide +kernel
theorem dX9_ofFace_7 : decode cX9_ofFace 7 = .ok (.astore_n 3, 1) := by decide +kernel
theorem dX9_ofFace_8 : decode cX9_ofFace 8 = .ok (.aload_n 3, 1) := by decide +kernel
theorem dX9_ofFace_9 : decode cX9_ofFace 9 = .ok (.iload_n 1, 1) := by decide +kernel
theorem dX9_ofFace_10 : decode cX9_ofFace 10 = .ok (.invokevirtual 87, 3) := by decide +kernel
theorem dX9_ofFace_13 : decode cX9_ofFace 13 = .ok (.ifCond .ne 5, 3) := by decide +kernel
theorem dX9_ofFace_16 : decode cX9_ofFace 16 = .ok (.iconst (-1), 1) := by decide +kernel
theorem dX9_ofFace_17 : decode cX9_ofFace 17 = .ok (.ireturn, 1) := by decide +kernel
theorem dX9_ofFace_18 : decode cX9_ofFace 18 = .ok (.iload_n 2, 1) := by decide +kernel
theorem dX9_ofFace_19 : decode cX9_ofFace 19 = .ok (.tableswitch 73 0 4 #[33, 40, 47, 54, 66], 33) := by decide +kernel
theorem dX9_ofFace_52 : decode cX9_ofFace 52 = .ok (.aload_n 3, 1) := by decide +kernel
theorem dX9_ofFace_53 : decode cX9_ofFace 53 = .ok (.getfield 91, 3) := by decide +kernel
theorem dX9_ofFace_56 : decode cX9_ofFace 56 = .ok (.iload_n 1, 1) := by decide +kernel
theorem dX9_ofFace_57 : decode cX9_ofFace 57 = .ok (.iaload, 1) := by decide +kernel
theorem dX9_ofFace_58 : decode cX9_ofFace 58 = .ok (.ireturn, 1) := by decide +kernel
theorem dX9_ofFace_59 : decode cX9_ofFace 59 = .ok (.aload_n 3, 1) := by decide +kernel
theorem dX9_ofFace_60 : decode cX9_ofFace 60 = .ok (.getfield 95, 3) := by decide +kernel
theorem dX9_ofFace_63 : decode cX9_ofFace 63 = .ok (.iload_n 1, 1) := by decide +kernel
theorem dX9_ofFace_64 : decode cX9_ofFace 64 = .ok (.iaload, 1) := by decide +kernel
theorem dX9_ofFace_65 : decode cX9_ofFace 65 = .ok (.ireturn, 1) := by decide +kernel
theorem dX9_ofFace_66 : decode cX9_ofFace 66 = .ok (.aload_n 3, 1) := by decide +kernel
theorem dX9_ofFace_67 : decode cX9_ofFace 67 = .ok (.getfield 98, 3) := by decide +kernel
theorem dX9_ofFace_70 : decode cX9_ofFace 70 = .ok (.iload_n 1, 1) := by decide +kernel
theorem dX9_ofFace_71 : decode cX9_ofFace 71 = .ok (.iaload, 1) := by decide +kernel
theorem dX9_ofFace_72 : decode cX9_ofFace 72 = .ok (.ireturn, 1) := by decide +kernel
theorem dX9_ofFace_73 : decode cX9_ofFace 73 = .ok (.aload_n 0, 1) := by decide +kernel
theorem dX9_ofFace_74 : decode cX9_ofFace 74 = .ok (.getfield 10, 3) := by decide +kernel
theorem dX9_ofFace_77 : decode cX9_ofFace 77 = .ok (.getfield 101, 3) := by decide +kernel
theorem dX9_ofFace_80 : decode cX9_ofFace 80 = .ok (.iload_n 1, 1) := by decide +kernel
theorem dX9_ofFace_81 : decode cX9_ofFace 81 = .ok (.invokevirtual 105, 3) := by decide +kernel
theorem dX9_ofFace_84 : decode cX9_ofFace 84 = .ok (.ireturn, 1) := by decide +kernel
theorem dX9_ofFace_85 : decode cX9_ofFace 85 = .ok (.aload_n 3, 1) := by decide +kernel
theorem dX9_ofFace_86 : decode cX9_ofFace 86 = .ok (.getfield 110, 3) := by decide +kernel
theorem dX9_ofFace_89 : decode cX9_ofFace 89 = .ok (.iload_n 1, 1) := by decide +kernel
theorem dX9_ofFace_90 : decode cX9_ofFace 90 = .ok (.iaload, 1) := by decide +kernel
theorem dX9_ofFace_91 : decode cX9_ofFace 91 = .ok (.ireturn, 1) := by decide +kernel
theorem dX9_ofFace_92 : decode cX9_ofFace 92 = .ok (.bipush (-2), 2) := by decide +kernel
theorem dX9_ofFace_94 : decode cX9_ofFace 94 = .ok (.ireturn, 1) := by decide +kernel
set_option maxRecDepth 20000 in
theorem ggX9_truck_X9_within : GoodIn wsX9_truck wsX9_within := goodIn_r _ [11] (by decide +kernel) (by decide +kernel)
set_option maxRecDepth 20000 in
theorem gX9_truck_X9_within : GoodIn wsX9_truck (va_wsS RX9 116 yX9_within wsX9_within) := goodIn_app (goodIn_of _ (by decide +kernel)) ggX9_truck_X9_within
set_option maxRecDepth 20000 in
theorem ggX9_truck_X8_isAway : GoodIn wsX9_truck wsX8_isAway := goodIn_r _ [16, 17, 9, 10, 11, 33, 34, 35, 36] (by decide +kernel) (by decide +kernel)
set_option maxRecDepth 20000 in
theorem gX9_truck_X8_isAway : GoodIn wsX9_truck (wsV RX9 120 RX8 yX8_isAway wsX8_isAway) := goodIn_app (goodIn_of _ (by decide +kernel)) ggX9_truck_X8_isAway
theorem dX9_truck_0 : decode cX9_truck 0 = .ok (.iload_n 1, 1) := by decide +kernel
theorem dX9_truck_1 : decode cX9_truck 1 = .ok (.iconst 0, 1) := by decide +kernel
theorem dX9_truck_2 : decode cX9_truck 2 = .ok (.aload_n 0, 1) := by decide +kernel
theorem dX9_truck_3 : decode cX9_truck 3 = .ok (.getfield 10, 3) := by decide +kernel
theorem dX9_truck_6 : decode cX9_truck 6 = .ok (.getfield 113, 3) := by decide +kernel
theorem dX9_truck_9 : decode cX9_truck 9 = .ok (.iconst 0, 1) := by decide +kernel
theorem dX9_truck_10 : decode cX9_truck 10 = .ok (.iaload, 1) := by decide +kernel
theorem dX9_truck_11 : decode cX9_truck 11 = .ok (.iconst 1, 1) := by decide +kernel
theorem dX9_truck_12 : decode cX9_truck 12 = .ok (.isub, 1) := by decide +kernel
theorem dX9_truck_13 : decode cX9_truck 13 = .ok (.invokestatic 116, 3) := by decide +kernel
theorem dX9_truck_16 : decode cX9_truck 16 = .ok (.ifCond .eq 13, 3) := by decide +kernel
theorem dX9_truck_19 : decode cX9_truck 19 = .ok (.iload_n 1, 1) := by decide +kernel
theorem dX9_truck_20 : decode cX9_truck 20 = .ok (.iconst 0, 1) := by decide +kernel
theorem dX9_truck_21 : decode cX9_truck 21 = .ok (.bipush 19, 2) := by decide +kernel
theorem dX9_truck_23 : decode cX9_truck 23 = .ok (.invokestatic 116, 3) := by decide +kernel
theorem dX9_truck_26 : decode cX9_truck 26 = .ok (.ifCond .ne 5, 3) := by decide +kernel
theorem dX9_truck_29 : decode cX9_truck 29 = .ok (.iconst (-1), 1) := by decide +kernel
theorem dX9_truck_30 : decode cX9_truck 30 = .ok (.ireturn, 1) := by decide +kernel
theorem dX9_truck_31 : decode cX9_truck 31 = .ok (.aload_n 0, 1) := by decide +kernel
theorem dX9_truck_32 : decode cX9_truck 32 = .ok (.getfield 10, 3) := by decide +kernel
theorem dX9_truck_35 : decode cX9_truck 35 = .ok (.getfield 101, 3) := by decide +kernel
theorem dX9_truck_38 : decode cX9_truck 38 = .ok (.astore_n 3, 1) := by decide +kernel
theorem dX9_truck_39 : decode cX9_truck 39 = .ok (.aload_n 3, 1) := by decide +kernel
theorem dX9_truck_40 : decode cX9_truck 40 = .ok (.iload_n 1, 1) := by decide +kernel
theorem dX9_truck_41 : decode cX9_truck 41 = .ok (.invokevirtual 120, 3) := by decide +kernel
theorem dX9_truck_44 : decode cX9_truck 44 = .ok (.istore 4, 2) := by decide +kernel
theorem dX9_truck_46 : decode cX9_truck 46 = .ok (.iload_n 2, 1) := by decide +kernel
theorem dX9_truck_47 : decode cX9_truck 47 = .ok (.tableswitch 87 0 3 #[29, 46, 63, 80], 29) := by decide +kernel
theorem dX9_truck_76 : decode cX9_truck 76 = .ok (.iload 4, 2) := by decide +kernel
theorem dX9_truck_78 : decode cX9_truck 78 = .ok (.ifCond .eq 12, 3) := by decide +kernel
theorem dX9_truck_81 : decode cX9_truck 81 = .ok (.aload_n 3, 1) := by decide +kernel
theorem dX9_truck_82 : decode cX9_truck 82 = .ok (.getfield 123, 3) := by decide +kernel
theorem dX9_truck_85 : decode cX9_truck 85 = .ok (.iload_n 1, 1) := by decide +kernel
theorem dX9_truck_86 : decode cX9_truck 86 = .ok (.iaload, 1) := by decide +kernel
theorem dX9_truck_87 : decode cX9_truck 87 = .ok (.goto 5, 3) := by decide +kernel
theorem dX9_truck_90 : decode cX9_truck 90 = .ok (.bipush (-6), 2) := by decide +kernel
theorem dX9_truck_92 : decode cX9_truck 92 = .ok (.ireturn, 1) := by decide +kernel
theorem dX9_truck_93 : decode cX9_truck 93 = .ok (.iload 4, 2) := by decide +kernel
theorem dX9_truck_95 : decode cX9_truck 95 = .ok (.ifCond .eq 12, 3) := by decide +kernel
theorem dX9_truck_98 : decode cX9_truck 98 = .ok (.aload_n 3, 1) := by decide +kernel
theorem dX9_truck_99 : decode cX9_truck 99 = .ok (.getfield 126, 3) := by decide +kernel
theorem dX9_truck_102 : decode cX9_truck 102 = .ok (.iload_n 1, 1) := by decide +kernel
theorem dX9_truck_103 : decode cX9_truck 103 = .ok (.iaload, 1) := by decide +kernel
theorem dX9_truck_104 : decode cX9_truck 104 = .ok (.goto 5, 3) := by decide +kernel
theorem dX9_truck_107 : decode cX9_truck 107 = .ok (.bipush (-6), 2) := by decide +kernel
theorem dX9_truck_109 : decode cX9_truck 109 = .ok (.ireturn, 1) := by decide +kernel
theorem dX9_truck_110 : decode cX9_truck 110 = .ok (.iload 4, 2) := by decide +kernel
theorem dX9_truck_112 : decode cX9_truck 112 = .ok (.ifCond .eq 12, 3) := by decide +kernel
theorem dX9_truck_115 : decode cX9_truck 115 = .ok (.aload_n 3, 1) := by decide +kernel
theorem dX9_truck_116 : decode cX9_truck 116 = .ok (.getfield 129, 3) := by decide +kernel
theorem dX9_truck_119 : decode cX9_truck 119 = .ok (.iload_n 1, 1) := by decide +kernel
theorem dX9_truck_120 : decode cX9_truck 120 = .ok (.iaload, 1) := by decide +kernel
theorem dX9_truck_121 : decode cX9_truck 121 = .ok (.goto 5, 3) := by decide +kernel
theorem dX9_truck_124 : decode cX9_truck 124 = .ok (.bipush (-6), 2) := by decide +kernel
theorem dX9_truck_126 : decode cX9_truck 126 = .ok (.ireturn, 1) := by decide +kernel
theorem dX9_truck_127 : decode cX9_truck 127 = .ok (.aload_n 3, 1) := by decide +kernel
theorem dX9_truck_128 : decode cX9_truck 128 = .ok (.getfield 132, 3) := by decide +kernel
theorem dX9_truck_131 : decode cX9_truck 131 = .ok (.iload_n 1, 1) := by decide +kernel
theorem dX9_truck_132 : decode cX9_truck 132 = .ok (.iaload, 1) := by decide +kernel
theorem dX9_truck_133 : decode cX9_truck 133 = .ok (.ireturn, 1) := by decide +kernel
theorem dX9_truck_134 : decode cX9_truck 134 = .ok (.bipush (-2), 2) := by decide +kernel
theorem dX9_truck_136 : decode cX9_truck 136 = .ok (.ireturn, 1) := by decide +kernel
set_option maxRecDepth 20000 in
theorem ggX9_ofContract_X1_has : GoodIn wsX9_ofContract wsX1_has := goodIn_r _ [13, 14, 77, 78] (by decide +kernel) (by decide +kernel)
set_option maxRecDepth 20000 in
theorem gX9_ofContract_X1_has : GoodIn wsX9_ofContract (wsV RX9 135 RX1 yX1_has wsX1_has) := goodIn_app (goodIn_of _ (by decide +kernel)) ggX9_ofContract_X1_has
set_option maxRecDepth 20000 in
theorem ggX9_ofContract_X9_within : GoodIn wsX9_ofContract wsX9_within := goodIn_r _ [18] (by decide +kernel) (by decide +kernel)
set_option maxRecDepth 20000 in
theorem gX9_ofContract_X9_within : GoodIn wsX9_ofContract (va_wsS RX9 116 yX9_within wsX9_within) := goodIn_app (goodIn_of _ (by decide +kernel)) ggX9_ofContract_X9_within
set_option maxRecDepth 20000 in
theorem ggX9_ofContract_X1_term : GoodIn wsX9_ofContract wsX1_term := goodIn_r _ [22, 23, 24, 10, 11, 12, 13, 14, 16, 17, 18, 77, 78] (by decide +kernel) (by decide +kernel)
set_option maxRecDepth 20000 in
theorem gX9_ofContract_X1_term : GoodIn wsX9_ofContract (wsV RX9 136 RX1 yX1_term wsX1_term) := goodIn_app (goodIn_of _ (by decide +kernel)) ggX9_ofContract_X1_term
set_option maxRecDepth 20000 in
theorem ggX9_ofContract_X0_workOut : GoodIn wsX9_ofContract wsX0_workOut := goodIn_r _ [29, 30, 31, 32, 33, 34, 35, 36, 37, 38, 39, 40, 41, 42, 43, 44, 45, 20, 21, 12, 22, 23, 24, 10, 11, 13, 14, 16, 17, 18, 46, 47, 48, 28, 49, 69, 70, 71, 72, 73, 74, 75, 76, 77, 78] (by decide +kernel) (by decide +kernel)
set_option maxRecDepth 20000 in
theorem gX9_ofContract_X0_workOut : GoodIn wsX9_ofContract (wsV RX9 146 RX0 yX0_workOut wsX0_workOut) := goodIn_app (goodIn_of _ (by decide +kernel)) ggX9_ofContract_X0_workOut
theorem dX9_ofContract_0 : decode cX9_ofContract 0 = .ok (.aload_n 0, 1) := by decide +kernel
theorem dX9_ofContract_1 : decode cX9_ofContract 1 = .ok (.getfield 10, 3) := by decide +kernel
theorem dX9_ofContract_4 : decode cX9_ofContract 4 = .ok (.getfield 62, 3) := by decide +kernel
theorem dX9_ofContract_7 : decode cX9_ofContract 7 = .ok (.astore_n 3, 1) := by decide +kernel
theorem dX9_ofContract_8 : decode cX9_ofContract 8 = .ok (.aload_n 3, 1) := by decide +kernel
theorem dX9_ofContract_9 : decode cX9_ofContract 9 = .ok (.iload_n 1, 1) := by decide +kernel
theorem dX9_ofContract_10 : decode cX9_ofContract 10 = .ok (.invokevirtual 135, 3) := by decide +kernel
theorem dX9_ofContract_13 : decode cX9_ofContract 13 = .ok (.ifCond .ne 5, 3) := by decide +kernel
theorem dX9_ofContract_16 : decode cX9_ofContract 16 = .ok (.iconst (-1), 1) := by decide +kernel
theorem dX9_ofContract_17 : decode cX9_ofContract 17 = .ok (.ireturn, 1) := by decide +kernel
theorem dX9_ofContract_18 : decode cX9_ofContract 18 = .ok (.iload_n 2, 1) := by decide +kernel
theorem dX9_ofContract_19 : decode cX9_ofContract 19 = .ok (.iconst 0, 1) := by decide +kernel
theorem dX9_ofContract_20 : decode cX9_ofContract 20 = .ok (.iconst 5, 1) := by decide +kernel
theorem dX9_ofContract_21 : decode cX9_ofContract 21 = .ok (.invokestatic 116, 3) := by decide +kernel
theorem dX9_ofContract_24 : decode cX9_ofContract 24 = .ok (.ifCond .eq 10, 3) := by decide +kernel
theorem dX9_ofContract_27 : decode cX9_ofContract 27 = .ok (.aload_n 3, 1) := by decide +kernel
theorem dX9_ofContract_28 : decode cX9_ofContract 28 = .ok (.iload_n 1, 1) := by decide +kernel
theorem dX9_ofContract_29 : decode cX9_ofContract 29 = .ok (.iload_n 2, 1) := by decide +kernel
theorem dX9_ofContract_30 : decode cX9_ofContract 30 = .ok (.invokevirtual 136, 3) := by decide +kernel
theorem dX9_ofContract_33 : decode cX9_ofContract 33 = .ok (.ireturn, 1) := by decide +kernel
theorem dX9_ofContract_34 : decode cX9_ofContract 34 = .ok (.aload_n 0, 1) := by decide +kernel
theorem dX9_ofContract_35 : decode cX9_ofContract 35 = .ok (.getfield 10, 3) := by decide +kernel
theorem dX9_ofContract_38 : decode cX9_ofContract 38 = .ok (.getfield 139, 3) := by decide +kernel
theorem dX9_ofContract_41 : decode cX9_ofContract 41 = .ok (.astore 4, 2) := by decide +kernel
theorem dX9_ofContract_43 : decode cX9_ofContract 43 = .ok (.aload 4, 2) := by decide +kernel
theorem dX9_ofContract_45 : decode cX9_ofContract 45 = .ok (.aload_n 3, 1) := by decide +kernel
theorem dX9_ofContract_46 : decode cX9_ofContract 46 = .ok (.iload_n 1, 1) := by decide +kernel
theorem dX9_ofContract_47 : decode cX9_ofContract 47 = .ok (.aload_n 0, 1) := by decide +kernel
theorem dX9_ofContract_48 : decode cX9_ofContract 48 = .ok (.getfield 10, 3) := by decide +kernel
theorem dX9_ofContract_51 : decode cX9_ofContract 51 = .ok (.getfield 74, 3) := by decide +kernel
theorem dX9_ofContract_54 : decode cX9_ofContract 54 = .ok (.getfield 143, 3) := by decide +kernel
theorem dX9_ofContract_57 : decode cX9_ofContract 57 = .ok (.invokevirtual 146, 3) := by decide +kernel
theorem dX9_ofContract_60 : decode cX9_ofContract 60 = .ok (.iload_n 2, 1) := by decide +kernel
theorem dX9_ofContract_61 : decode cX9_ofContract 61 = .ok (.tableswitch 71 6 8 #[27, 33, 52], 27) := by decide +kernel
theorem dX9_ofContract_88 : decode cX9_ofContract 88 = .ok (.aload 4, 2) := by decide +kernel
theorem dX9_ofContract_90 : decode cX9_ofContract 90 = .ok (.getfield 152, 3) := by decide +kernel
theorem dX9_ofContract_93 : decode cX9_ofContract 93 = .ok (.ireturn, 1) := by decide +kernel
theorem dX9_ofContract_94 : decode cX9_ofContract 94 = .ok (.aload 4, 2) := by decide +kernel
theorem dX9_ofContract_96 : decode cX9_ofContract 96 = .ok (.getfield 152, 3) := by decide +kernel
theorem dX9_ofContract_99 : decode cX9_ofContract 99 = .ok (.ifCond .ne 11, 3) := by decide +kernel
theorem dX9_ofContract_102 : decode cX9_ofContract 102 = .ok (.aload 4, 2) := by decide +kernel
theorem dX9_ofContract_104 : decode cX9_ofContract 104 = .ok (.getfield 156, 3) := by decide +kernel
theorem dX9_ofContract_107 : decode cX9_ofContract 107 = .ok (.goto 5, 3) := by decide +kernel
theorem dX9_ofContract_110 : decode cX9_ofContract 110 = .ok (.bipush (-6), 2) := by decide +kernel
theorem dX9_ofContract_112 : decode cX9_ofContract 112 = .ok (.ireturn, 1) := by decide +kernel
theorem dX9_ofContract_113 : decode cX9_ofContract 113 = .ok (.aload 4, 2) := by decide +kernel
theorem dX9_ofContract_115 : decode cX9_ofContract 115 = .ok (.getfield 152, 3) := by decide +kernel
theorem dX9_ofContract_118 : decode cX9_ofContract 118 = .ok (.ifCond .ne 11, 3) := by decide +kernel
theorem dX9_ofContract_121 : decode cX9_ofContract 121 = .ok (.aload 4, 2) := by decide +kernel
theorem dX9_ofContract_123 : decode cX9_ofContract 123 = .ok (.getfield 159, 3) := by decide +kernel
theorem dX9_ofContract_126 : decode cX9_ofContract 126 = .ok (.goto 5, 3) := by decide +kernel
theorem dX9_ofContract_129 : decode cX9_ofContract 129 = .ok (.bipush (-6), 2) := by decide +kernel
theorem dX9_ofContract_131 : decode cX9_ofContract 131 = .ok (.ireturn, 1) := by decide +kernel
theorem dX9_ofContract_132 : decode cX9_ofContract 132 = .ok (.bipush (-2), 2) := by decide +kernel
theorem dX9_ofContract_134 : decode cX9_ofContract 134 = .ok (.ireturn, 1) := by decide +kernel
set_option maxRecDepth 20000 in
theorem ggX9_bin_X9_within : GoodIn wsX9_bin wsX9_within := goodIn_r _ [7] (by decide +kernel) (by decide +kernel)
set_option maxRecDepth 20000 in
theorem gX9_bin_X9_within : GoodIn wsX9_bin (va_wsS RX9 116 yX9_within wsX9_within) := goodIn_app (goodIn_of _ (by decide +kernel)) ggX9_bin_X9_within
theorem dX9_bin_0 : decode cX9_bin 0 = .ok (.iload_n 1, 1) := by decide +kernel
theorem dX9_bin_1 : decode cX9_bin 1 = .ok (.iconst 0, 1) := by decide +kernel
theorem dX9_bin_2 : decode cX9_bin 2 = .ok (.iconst 2, 1) := by decide +kernel
theorem dX9_bin_3 : decode cX9_bin 3 = .ok (.invokestatic 116, 3) := by decide +kernel
theorem dX9_bin_6 : decode cX9_bin 6 = .ok (.ifCond .eq 18, 3) := by decide +kernel
theorem dX9_bin_9 : decode cX9_bin 9 = .ok (.aload_n 0, 1) := by decide +kernel
theorem dX9_bin_10 : decode cX9_bin 10 = .ok (.getfield 10, 3) := by decide +kernel
theorem dX9_bin_13 : decode cX9_bin 13 = .ok (.getfield 74, 3) := by decide +kernel
theorem dX9_bin_16 : decode cX9_bin 16 = .ok (.getfield 143, 3) := by decide +kernel
theorem dX9_bin_19 : decode cX9_bin 19 = .ok (.iload_n 1, 1) := by decide +kernel
theorem dX9_bin_20 : decode cX9_bin 20 = .ok (.iaload, 1) := by decide +kernel
theorem dX9_bin_21 : decode cX9_bin 21 = .ok (.goto 4, 3) := by decide +kernel
theorem dX9_bin_24 : decode cX9_bin 24 = .ok (.iconst (-1), 1) := by decide +kernel
theorem dX9_bin_25 : decode cX9_bin 25 = .ok (.ireturn, 1) := by decide +kernel
set_option maxRecDepth 20000 in
theorem ggX9_waiting_X9_within : GoodIn wsX9_waiting wsX9_within := goodIn_r _ [7] (by decide +kernel) (by decide +kernel)
set_option maxRecDepth 20000 in
theorem gX9_waiting_X9_within : GoodIn wsX9_waiting (va_wsS RX9 116 yX9_within wsX9_within) := goodIn_app (goodIn_of _ (by decide +kernel)) ggX9_waiting_X9_within
theorem dX9_waiting_0 : decode cX9_waiting 0 = .ok (.iload_n 1, 1) := by decide +kernel
theorem dX9_waiting_1 : decode cX9_waiting 1 = .ok (.iconst 1, 1) := by decide +kernel
theorem dX9_waiting_2 : decode cX9_waiting 2 = .ok (.bipush 9, 2) := by decide +kernel
theorem dX9_waiting_4 : decode cX9_waiting 4 = .ok (.invokestatic 116, 3) := by decide +kernel
theorem dX9_waiting_7 : decode cX9_waiting 7 = .ok (.ifCond .eq 18, 3) := by decide +kernel
theorem dX9_waiting_10 : decode cX9_waiting 10 = .ok (.aload_n 0, 1) := by decide +kernel
theorem dX9_waiting_11 : decode cX9_waiting 11 = .ok (.getfield 10, 3) := by decide +kernel
theorem dX9_waiting_14 : decode cX9_waiting 14 = .ok (.getfield 74, 3) := by decide +kernel
theorem dX9_waiting_17 : decode cX9_waiting 17 = .ok (.getfield 162, 3) := by decide +kernel
theorem dX9_waiting_20 : decode cX9_waiting 20 = .ok (.iload_n 1, 1) := by decide +kernel
theorem dX9_waiting_21 : decode cX9_waiting 21 = .ok (.iaload, 1) := by decide +kernel
theorem dX9_waiting_22 : decode cX9_waiting 22 = .ok (.goto 4, 3) := by decide +kernel
theorem dX9_waiting_25 : decode cX9_waiting 25 = .ok (.iconst (-1), 1) := by decide +kernel
theorem dX9_waiting_26 : decode cX9_waiting 26 = .ok (.ireturn, 1) := by decide +kernel
set_option maxRecDepth 20000 in
theorem ggX9_count_X9_within : GoodIn wsX9_count wsX9_within := goodIn_r _ [22] (by decide +kernel) (by decide +kernel)
set_option maxRecDepth 20000 in
theorem gX9_count_X9_within : GoodIn wsX9_count (va_wsS RX9 116 yX9_within wsX9_within) := goodIn_app (goodIn_of _ (by decide +kernel)) ggX9_count_X9_within
set_option maxRecDepth 20000 in
theorem ggX9_count_X8_awayInAll : GoodIn wsX9_count wsX8_awayInAll := goodIn_r _ [27, 28, 29, 30, 26, 31, 32, 83, 84, 85, 86] (by decide +kernel) (by decide +kernel)
set_option maxRecDepth 20000 in
theorem gX9_count_X8_awayInAll : GoodIn wsX9_count (wsV RX9 172 RX8 yX8_awayInAll wsX8_awayInAll) := goodIn_app (goodIn_of _ (by decide +kernel)) ggX9_count_X8_awayInAll
set_option maxRecDepth 20000 in
theorem ggX9_count_X2_uncrushedInAll : GoodIn wsX9_count wsX2_uncrushedInAll := goodIn_r _ [37, 38, 70, 71, 72, 73] (by decide +kernel) (by decide +kernel)
set_option maxRecDepth 20000 in
theorem gX9_count_X2_uncrushedInAll : GoodIn wsX9_count (wsV RX9 175 RX2 yX2_uncrushedInAll wsX2_uncrushedInAll) := goodIn_app (goodIn_of _ (by decide +kernel)) ggX9_count_X2_uncrushedInAll
set_option maxRecDepth 20000 in
theorem ggX9_count_X2_tonnesInAnHour : GoodIn wsX9_count wsX2_tonnesInAnHour := goodIn_r _ [42, 43, 44, 45, 46, 47, 70, 71, 72, 73] (by decide +kernel) (by decide +kernel)
set_option maxRecDepth 20000 in
theorem gX9_count_X2_tonnesInAnHour : GoodIn wsX9_count (wsV RX9 184 RX2 yX2_tonnesInAnHour wsX2_tonnesInAnHour) := goodIn_app (goodIn_of _ (by decide +kernel)) ggX9_count_X2_tonnesInAnHour
theorem dX9_count_0 : decode cX9_count 0 = .ok (.iload_n 1, 1) := by decide +kernel
theorem dX9_count_1 : decode cX9_count 1 = .ok (.bipush 11, 2) := by decide +kernel
theorem dX9_count_3 : decode cX9_count 3 = .ok (.bipush 16, 2) := by decide +kernel
theorem dX9_count_5 : decode cX9_count 5 = .ok (.invokestatic 116, 3) := by decide +kernel
theorem dX9_count_8 : decode cX9_count 8 = .ok (.ifCond .eq 16, 3) := by decide +kernel
theorem dX9_count_11 : decode cX9_count 11 = .ok (.aload_n 0, 1) := by decide +kernel
theorem dX9_count_12 : decode cX9_count 12 = .ok (.getfield 10, 3) := by decide +kernel
theorem dX9_count_15 : decode cX9_count 15 = .ok (.getfield 113, 3) := by decide +kernel
theorem dX9_count_18 : decode cX9_count 18 = .ok (.iload_n 1, 1) := by decide +kernel
theorem dX9_count_19 : decode cX9_count 19 = .ok (.bipush 11, 2) := by decide +kernel
theorem dX9_count_21 : decode cX9_count 21 = .ok (.isub, 1) := by decide +kernel
theorem dX9_count_22 : decode cX9_count 22 = .ok (.iaload, 1) := by decide +kernel
theorem dX9_count_23 : decode cX9_count 23 = .ok (.ireturn, 1) := by decide +kernel
theorem dX9_count_24 : decode cX9_count 24 = .ok (.iload_n 1, 1) := by decide +kernel
theorem dX9_count_25 : decode cX9_count 25 = .ok (.tableswitch 225 0 18 #[91, 99, 110, 121, 132, 143, 154, 165, 185, 193, 201, 225, 225, 225, 225, 225, 225, 209, 217], 91) := by decide +kernel
theorem dX9_count_116 : decode cX9_count 116 = .ok (.aload_n 0, 1) := by decide +kernel
theorem dX9_count_117 : decode cX9_count 117 = .ok (.getfield 10, 3) := by decide +kernel
theorem dX9_count_120 : decode cX9_count 120 = .ok (.getfield 165, 3) := by decide +kernel
theorem dX9_count_123 : decode cX9_count 123 = .ok (.ireturn, 1) := by decide +kernel
theorem dX9_count_124 : decode cX9_count 124 = .ok (.aload_n 0, 1) := by decide +kernel
theorem dX9_count_125 : decode cX9_count 125 = .ok (.getfield 10, 3) := by decide +kernel
theorem dX9_count_128 : decode cX9_count 128 = .ok (.getfield 52, 3) := by decide +kernel
theorem dX9_count_131 : decode cX9_count 131 = .ok (.getfield 168, 3) := by decide +kernel
theorem dX9_count_134 : decode cX9_count 134 = .ok (.ireturn, 1) := by decide +kernel
theorem dX9_count_135 : decode cX9_count 135 = .ok (.aload_n 0, 1) := by decide +kernel
theorem dX9_count_136 : decode cX9_count 136 = .ok (.getfield 10, 3) := by decide +kernel
theorem dX9_count_139 : decode cX9_count 139 = .ok (.getfield 62, 3) := by decide +kernel
theorem dX9_count_142 : decode cX9_count 142 = .ok (.getfield 171, 3) := by decide +kernel
theorem dX9_count_145 : decode cX9_count 145 = .ok (.ireturn, 1) := by decide +kernel
theorem dX9_count_146 : decode cX9_count 146 = .ok (.aload_n 0, 1) := by decide +kernel
theorem dX9_count_147 : decode cX9_count 147 = .ok (.getfield 10, 3) := by decide +kernel
theorem dX9_count_150 : decode cX9_count 150 = .ok (.getfield 101, 3) := by decide +kernel
theorem dX9_count_153 : decode cX9_count 153 = .ok (.invokevirtual 172, 3) := by decide +kernel
theorem dX9_count_156 : decode cX9_count 156 = .ok (.ireturn, 1) := by decide +kernel
theorem dX9_count_157 : decode cX9_count 157 = .ok (.aload_n 0, 1) := by decide +kernel
theorem dX9_count_158 : decode cX9_count 158 = .ok (.getfield 10, 3) := by decide +kernel
theorem dX9_count_161 : decode cX9_count 161 = .ok (.getfield 74, 3) := by decide +kernel
theorem dX9_count_164 : decode cX9_count 164 = .ok (.invokevirtual 175, 3) := by decide +kernel
theorem dX9_count_167 : decode cX9_count 167 = .ok (.ireturn, 1) := by decide +kernel
theorem dX9_count_168 : decode cX9_count 168 = .ok (.aload_n 0, 1) := by decide +kernel
theorem dX9_count_169 : decode cX9_count 169 = .ok (.getfield 10, 3) := by decide +kernel
theorem dX9_count_172 : decode cX9_count 172 = .ok (.getfield 74, 3) := by decide +kernel
theorem dX9_count_175 : decode cX9_count 175 = .ok (.getfield 178, 3) := by decide +kernel
theorem dX9_count_178 : decode cX9_count 178 = .ok (.ireturn, 1) := by decide +kernel
theorem dX9_count_179 : decode cX9_count 179 = .ok (.aload_n 0, 1) := by decide +kernel
theorem dX9_count_180 : decode cX9_count 180 = .ok (.getfield 10, 3) := by decide +kernel
theorem dX9_count_183 : decode cX9_count 183 = .ok (.getfield 74, 3) := by decide +kernel
theorem dX9_count_186 : decode cX9_count 186 = .ok (.getfield 181, 3) := by decide +kernel
theorem dX9_count_189 : decode cX9_count 189 = .ok (.ireturn, 1) := by decide +kernel
theorem dX9_count_190 : decode cX9_count 190 = .ok (.aload_n 0, 1) := by decide +kernel
theorem dX9_count_191 : decode cX9_count 191 = .ok (.getfield 10, 3) := by decide +kernel
theorem dX9_count_194 : decode cX9_count 194 = .ok (.getfield 74, 3) := by decide +kernel
theorem dX9_count_197 : decode cX9_count 197 = .ok (.aload_n 0, 1) := by decide +kernel
theorem dX9_count_198 : decode cX9_count 198 = .ok (.getfield 10, 3) := by decide +kernel
theorem dX9_count_201 : decode cX9_count 201 = .ok (.getfield 113, 3) := by decide +kernel
theorem dX9_count_204 : decode cX9_count 204 = .ok (.iconst 4, 1) := by decide +kernel
theorem dX9_count_205 : decode cX9_count 205 = .ok (.iaload, 1) := by decide +kernel
theorem dX9_count_206 : decode cX9_count 206 = .ok (.invokevirtual 184, 3) := by decide +kernel
theorem dX9_count_209 : decode cX9_count 209 = .ok (.ireturn, 1) := by decide +kernel
theorem dX9_count_210 : decode cX9_count 210 = .ok (.aload_n 0, 1) := by decide +kernel
theorem dX9_count_211 : decode cX9_count 211 = .ok (.getfield 10, 3) := by decide +kernel
theorem dX9_count_214 : decode cX9_count 214 = .ok (.getfield 187, 3) := by decide +kernel
theorem dX9_count_217 : decode cX9_count 217 = .ok (.ireturn, 1) := by decide +kernel
theorem dX9_count_218 : decode cX9_count 218 = .ok (.aload_n 0, 1) := by decide +kernel
theorem dX9_count_219 : decode cX9_count 219 = .ok (.getfield 10, 3) := by decide +kernel
theorem dX9_count_222 : decode cX9_count 222 = .ok (.getfield 190, 3) := by decide +kernel
theorem dX9_count_225 : decode cX9_count 225 = .ok (.ireturn, 1) := by decide +kernel
theorem dX9_count_226 : decode cX9_count 226 = .ok (.aload_n 0, 1) := by decide +kernel
theorem dX9_count_227 : decode cX9_count 227 = .ok (.getfield 10, 3) := by decide +kernel
theorem dX9_count_230 : decode cX9_count 230 = .ok (.getfield 193, 3) := by decide +kernel
theorem dX9_count_233 : decode cX9_count 233 = .ok (.ireturn, 1) := by decide +kernel
theorem dX9_count_234 : decode cX9_count 234 = .ok (.aload_n 0, 1) := by decide +kernel
theorem dX9_count_235 : decode cX9_count 235 = .ok (.getfield 36, 3) := by decide +kernel
theorem dX9_count_238 : decode cX9_count 238 = .ok (.getfield 196, 3) := by decide +kernel
theorem dX9_count_241 : decode cX9_count 241 = .ok (.ireturn, 1) := by decide +kernel
theorem dX9_count_242 : decode cX9_count 242 = .ok (.aload_n 0, 1) := by decide +kernel
theorem dX9_count_243 : decode cX9_count 243 = .ok (.getfield 22, 3) := by decide +kernel
theorem dX9_count_246 : decode cX9_count 246 = .ok (.getfield 199, 3) := by decide +kernel
theorem dX9_count_249 : decode cX9_count 249 = .ok (.ireturn, 1) := by decide +kernel
theorem dX9_count_250 : decode cX9_count 250 = .ok (.bipush (-2), 2) := by decide +kernel
theorem dX9_count_252 : decode cX9_count 252 = .ok (.ireturn, 1) := by decide +kernel
set_option maxRecDepth 20000 in
theorem ggX9_then_X9_within : GoodIn wsX9_then wsX9_within := goodIn_r _ [9] (by decide +kernel) (by decide +kernel)
set_option maxRecDepth 20000 in
theorem gX9_then_X9_within : GoodIn wsX9_then (va_wsS RX9 116 yX9_within wsX9_within) := goodIn_app (goodIn_of _ (by decide +kernel)) ggX9_then_X9_within
set_option maxRecDepth 20000 in
theorem ggX9_then_X6_copyFrom : GoodIn wsX9_then wsX6_copyFrom := goodIn_r _ [14, 15, 16, 17, 18, 19, 20, 21, 22, 23, 24, 8, 25, 26, 27, 28, 29, 30, 31, 32, 33, 34, 35, 36, 37, 38, 39, 40, 41, 42, 43, 44, 45, 46, 47, 48, 49, 50, 51, 52, 53, 54, 55, 56, 57, 58, 59, 60, 61, 62, 63, 64, 65, 66, 67, 68, 184, 185, 186, 187, 188, 189, 190, 191, 192, 193, 194, 195, 196, 197, 198, 199, 200, 201, 202, 203, 204, 205, 206, 207, 208] (by decide +kernel) (by decide +kernel)
set_option maxRecDepth 20000 in
theorem gX9_then_X6_copyFrom : GoodIn wsX9_then (wsV RX9 200 RX6 yX6_copyFrom wsX6_copyFrom) := goodIn_app (goodIn_of _ (by decide +kernel)) ggX9_then_X6_copyFrom
set_option maxRecDepth 20000 in
theorem ggX9_then_X6_runDays : GoodIn wsX9_then wsX6_runDays := goodIn_r _ [72, 21, 19, 73, 15, 18, 20, 74, 75, 76, 13, 77, 17, 78, 79, 16, 80, 81, 82, 83, 84, 37, 85, 43, 86, 87, 88, 56, 89, 58, 7, 8, 9, 90, 91, 92, 93, 94, 27, 28, 29, 95, 23, 96, 97, 98, 47, 99, 49, 100, 101, 102, 103, 39, 104, 105, 106, 107, 108, 40, 109, 110, 111, 112, 113, 50, 51, 52, 114, 115, 116, 117, 118, 119, 120, 121, 122, 60, 123, 124, 125, 126, 127, 128, 129, 59, 61, 130, 131, 132, 133, 134, 135, 136, 22, 137, 138, 139, 140, 141, 142, 143, 144, 145, 146, 147, 148, 149, 150, 151, 152, 153, 154, 155, 65, 156, 67, 157, 158, 159, 160, 68, 161, 162, 163, 164, 165, 166, 167, 168, 169, 170, 171, 172, 173, 174, 175, 176, 177, 178, 31, 32, 33, 184, 185, 186, 187, 188, 189, 190, 191, 192, 193, 207, 208, 199, 200, 201, 202, 194, 195, 196, 197, 198, 203, 204, 205, 206, 209, 210, 211, 212, 213, 214, 215, 216] (by decide +kernel) (by decide +kernel)
set_option maxRecDepth 20000 in
theorem gX9_then_X6_runDays : GoodIn wsX9_then (wsV RX9 203 RX6 yX6_runDays wsX6_runDays) := goodIn_app (goodIn_of _ (by decide +kernel)) ggX9_then_X6_runDays
theorem dX9_then_0 : decode cX9_then 0 = .ok (.iload_n 1, 1) := by decide +kernel
theorem dX9_then_1 : decode cX9_then 1 = .ok (.iconst 1, 1) := by decide +kernel
theorem dX9_then_2 : decode cX9_then 2 = .ok (.bipush 30, 2) := by decide +kernel
theorem dX9_then_4 : decode cX9_then 4 = .ok (.invokestatic 116, 3) := by decide +kernel
theorem dX9_then_7 : decode cX9_then 7 = .ok (.ifCond .eq 12, 3) := by decide +kernel
theorem dX9_then_10 : decode cX9_then 10 = .ok (.iload_n 2, 1) := by decide +kernel
theorem dX9_then_11 : decode cX9_then 11 = .ok (.iconst 0, 1) := by decide +kernel
theorem dX9_then_12 : decode cX9_then 12 = .ok (.iconst 1, 1) := by decide +kernel
theorem dX9_then_13 : decode cX9_then 13 = .ok (.invokestatic 116, 3) := by decide +kernel
theorem dX9_then_16 : decode cX9_then 16 = .ok (.ifCond .ne 6, 3) := by decide +kernel
theorem dX9_then_19 : decode cX9_then 19 = .ok (.bipush (-2), 2) := by decide +kernel
theorem dX9_then_21 : decode cX9_then 21 = .ok (.ireturn, 1) := by decide +kernel
theorem dX9_then_22 : decode cX9_then 22 = .ok (.aload_n 0, 1) := by decide +kernel
theorem dX9_then_23 : decode cX9_then 23 = .ok (.getfield 16, 3) := by decide +kernel
theorem dX9_then_26 : decode cX9_then 26 = .ok (.aload_n 0, 1) := by decide +kernel
theorem dX9_then_27 : decode cX9_then 27 = .ok (.getfield 10, 3) := by decide +kernel
theorem dX9_then_30 : decode cX9_then 30 = .ok (.invokevirtual 200, 3) := by decide +kernel
theorem dX9_then_33 : decode cX9_then 33 = .ok (.aload_n 0, 1) := by decide +kernel
theorem dX9_then_34 : decode cX9_then 34 = .ok (.getfield 16, 3) := by decide +kernel
theorem dX9_then_37 : decode cX9_then 37 = .ok (.iload_n 1, 1) := by decide +kernel
theorem dX9_then_38 : decode cX9_then 38 = .ok (.iconst 0, 1) := by decide +kernel
theorem dX9_then_39 : decode cX9_then 39 = .ok (.invokevirtual 203, 3) := by decide +kernel
theorem dX9_then_42 : decode cX9_then 42 = .ok (.istore_n 3, 1) := by decide +kernel
theorem dX9_then_43 : decode cX9_then 43 = .ok (.iload_n 2, 1) := by decide +kernel
theorem dX9_then_44 : decode cX9_then 44 = .ok (.ifCond .ne 5, 3) := by decide +kernel
theorem dX9_then_47 : decode cX9_then 47 = .ok (.iload_n 3, 1) := by decide +kernel
theorem dX9_then_48 : decode cX9_then 48 = .ok (.ireturn, 1) := by decide +kernel
theorem dX9_then_49 : decode cX9_then 49 = .ok (.aload_n 0, 1) := by decide +kernel
theorem dX9_then_50 : decode cX9_then 50 = .ok (.getfield 16, 3) := by decide +kernel
theorem dX9_then_53 : decode cX9_then 53 = .ok (.getfield 190, 3) := by decide +kernel
theorem dX9_then_56 : decode cX9_then 56 = .ok (.aload_n 0, 1) := by decide +kernel
theorem dX9_then_57 : decode cX9_then 57 = .ok (.getfield 10, 3) := by decide +kernel
theorem dX9_then_60 : decode cX9_then 60 = .ok (.getfield 190, 3) := by decide +kernel
theorem dX9_then_63 : decode cX9_then 63 = .ok (.isub, 1) := by decide +kernel
theorem dX9_then_64 : decode cX9_then 64 = .ok (.aload_n 0, 1) := by decide +kernel
theorem dX9_then_65 : decode cX9_then 65 = .ok (.getfield 16, 3) := by decide +kernel
theorem dX9_then_68 : decode cX9_then 68 = .ok (.getfield 193, 3) := by decide +kernel
theorem dX9_then_71 : decode cX9_then 71 = .ok (.aload_n 0, 1) := by decide +kernel
theorem dX9_then_72 : decode cX9_then 72 = .ok (.getfield 10, 3) := by decide +kernel
theorem dX9_then_75 : decode cX9_then 75 = .ok (.getfield 193, 3) := by decide +kernel
theorem dX9_then_78 : decode cX9_then 78 = .ok (.isub, 1) := by decide +kernel
theorem dX9_then_79 : decode cX9_then 79 = .ok (.isub, 1) := by decide +kernel
theorem dX9_then_80 : decode cX9_then 80 = .ok (.ldc 207, 2) := by decide +kernel
theorem dX9_then_82 : decode cX9_then 82 = .ok (.iadd, 1) := by decide +kernel
theorem dX9_then_83 : decode cX9_then 83 = .ok (.ireturn, 1) := by decide +kernel
set_option maxRecDepth 20000 in
theorem ggX9_bestGap_X9_within : GoodIn wsX9_bestGap wsX9_within := goodIn_r _ [8] (by decide +kernel) (by decide +kernel)
set_option maxRecDepth 20000 in
theorem gX9_bestGap_X9_within : GoodIn wsX9_bestGap (va_wsS RX9 116 yX9_within wsX9_within) := goodIn_app (goodIn_of _ (by decide +kernel)) ggX9_bestGap_X9_within
set_option maxRecDepth 20000 in
theorem ggX9_bestGap_X6_copyFrom : GoodIn wsX9_bestGap wsX6_copyFrom := goodIn_r _ [13, 14, 15, 16, 17, 18, 19, 20, 21, 22, 23, 7, 24, 25, 26, 27, 28, 29, 30, 31, 32, 33, 34, 35, 36, 37, 38, 39, 40, 41, 42, 43, 44, 45, 46, 47, 48, 49, 50, 51, 52, 53, 54, 55, 56, 57, 58, 59, 60, 61, 62, 63, 64, 65, 66, 67, 183, 184, 185, 186, 187, 188, 189, 190, 191, 192, 193, 194, 195, 196, 197, 198, 199, 200, 201, 202, 203, 204, 205, 206, 207] (by decide +kernel) (by decide +kernel)
set_option maxRecDepth 20000 in
theorem gX9_bestGap_X6_copyFrom : GoodIn wsX9_bestGap (wsV RX9 200 RX6 yX6_copyFrom wsX6_copyFrom) := goodIn_app (goodIn_of _ (by decide +kernel)) ggX9_bestGap_X6_copyFrom
set_option maxRecDepth 20000 in
theorem ggX9_bestGap_X6_runDays : GoodIn wsX9_bestGap wsX6_runDays := goodIn_r _ [71, 20, 18, 72, 14, 17, 19, 73, 74, 75, 12, 76, 16, 77, 78, 15, 79, 80, 81, 82, 83, 36, 84, 42, 85, 86, 87, 55, 88, 57, 6, 7, 8, 89, 90, 91, 92, 93, 26, 27, 28, 94, 22, 95, 96, 97, 46, 98, 48, 99, 100, 101, 102, 38, 103, 104, 105, 106, 107, 39, 108, 109, 110, 111, 112, 49, 50, 51, 113, 114, 115, 116, 117, 118, 119, 120, 121, 59, 122, 123, 124, 125, 126, 127, 128, 58, 60, 129, 130, 131, 132, 133, 134, 135, 21, 136, 137, 138, 139, 140, 141, 142, 143, 144, 145, 146, 147, 148, 149, 150, 151, 152, 153, 154, 64, 155, 66, 156, 157, 158, 159, 67, 160, 161, 162, 163, 164, 165, 166, 167, 168, 169, 170, 171, 172, 173, 174, 175, 176, 177, 30, 31, 32, 183, 184, 185, 186, 187, 188, 189, 190, 191, 192, 206, 207, 198, 199, 200, 201, 193, 194, 195, 196, 197, 202, 203, 204, 205, 208, 209, 210, 211, 212, 213, 214, 215] (by decide +kernel) (by decide +kernel)
set_option maxRecDepth 20000 in
theorem gX9_bestGap_X6_runDays : GoodIn wsX9_bestGap (wsV RX9 203 RX6 yX6_runDays wsX6_runDays) := goodIn_app (goodIn_of _ (by decide +kernel)) ggX9_bestGap_X6_runDays
theorem dX9_bestGap_0 : decode cX9_bestGap 0 = .ok (.iload_n 1, 1) := by decide +kernel
theorem dX9_bestGap_1 : decode cX9_bestGap 1 = .ok (.iconst 1, 1) := by decide +kernel
theorem dX9_bestGap_2 : decode cX9_bestGap 2 = .ok (.bipush 30, 2) := by decide +kernel
theorem dX9_bestGap_4 : decode cX9_bestGap 4 = .ok (.invokestatic 116, 3) := by decide +kernel
theorem dX9_bestGap_7 : decode cX9_bestGap 7 = .ok (.ifCond .eq 12, 3) := by decide +kernel
theorem dX9_bestGap_10 : decode cX9_bestGap 10 = .ok (.iload_n 2, 1) := by decide +kernel
theorem dX9_bestGap_11 : decode cX9_bestGap 11 = .ok (.iconst 0, 1) := by decide +kernel
theorem dX9_bestGap_12 : decode cX9_bestGap 12 = .ok (.iconst 1, 1) := by decide +kernel
theorem dX9_bestGap_13 : decode cX9_bestGap 13 = .ok (.invokestatic 116, 3) := by decide +kernel
theorem dX9_bestGap_16 : decode cX9_bestGap 16 = .ok (.ifCond .ne 6, 3) := by decide +kernel
theorem dX9_bestGap_19 : decode cX9_bestGap 19 = .ok (.bipush (-2), 2) := by decide +kernel
theorem dX9_bestGap_21 : decode cX9_bestGap 21 = .ok (.ireturn, 1) := by decide +kernel
theorem dX9_bestGap_22 : decode cX9_bestGap 22 = .ok (.iconst 1, 1) := by decide +kernel
theorem dX9_bestGap_23 : decode cX9_bestGap 23 = .ok (.istore_n 3, 1) := by decide +kernel
theorem dX9_bestGap_24 : decode cX9_bestGap 24 = .ok (.iconst (-1), 1) := by decide +kernel
theorem dX9_bestGap_25 : decode cX9_bestGap 25 = .ok (.istore 4, 2) := by decide +kernel
theorem dX9_bestGap_27 : decode cX9_bestGap 27 = .ok (.iconst 1, 1) := by decide +kernel
theorem dX9_bestGap_28 : decode cX9_bestGap 28 = .ok (.istore 5, 2) := by decide +kernel
theorem dX9_bestGap_30 : decode cX9_bestGap 30 = .ok (.iload 5, 2) := by decide +kernel
theorem dX9_bestGap_32 : decode cX9_bestGap 32 = .ok (.bipush 9, 2) := by decide +kernel
theorem dX9_bestGap_34 : decode cX9_bestGap 34 = .ok (.if_icmp .gt 81, 3) := by decide +kernel
theorem dX9_bestGap_37 : decode cX9_bestGap 37 = .ok (.aload_n 0, 1) := by decide +kernel
theorem dX9_bestGap_38 : decode cX9_bestGap 38 = .ok (.getfield 16, 3) := by decide +kernel
theorem dX9_bestGap_41 : decode cX9_bestGap 41 = .ok (.aload_n 0, 1) := by decide +kernel
theorem dX9_bestGap_42 : decode cX9_bestGap 42 = .ok (.getfield 10, 3) := by decide +kernel
theorem dX9_bestGap_45 : decode cX9_bestGap 45 = .ok (.invokevirtual 200, 3) := by decide +kernel
theorem dX9_bestGap_48 : decode cX9_bestGap 48 = .ok (.aload_n 0, 1) := by decide +kernel
theorem dX9_bestGap_49 : decode cX9_bestGap 49 = .ok (.getfield 16, 3) := by decide +kernel
theorem dX9_bestGap_52 : decode cX9_bestGap 52 = .ok (.getfield 113, 3) := by decide +kernel
theorem dX9_bestGap_55 : decode cX9_bestGap 55 = .ok (.iconst 3, 1) := by decide +kernel
theorem dX9_bestGap_56 : decode cX9_bestGap 56 = .ok (.iload 5, 2) := by decide +kernel
theorem dX9_bestGap_58 : decode cX9_bestGap 58 = .ok (.iastore, 1) := by decide +kernel
theorem dX9_bestGap_59 : decode cX9_bestGap 59 = .ok (.aload_n 0, 1) := by decide +kernel
theorem dX9_bestGap_60 : decode cX9_bestGap 60 = .ok (.getfield 16, 3) := by decide +kernel
theorem dX9_bestGap_63 : decode cX9_bestGap 63 = .ok (.iload_n 1, 1) := by decide +kernel
theorem dX9_bestGap_64 : decode cX9_bestGap 64 = .ok (.iconst 1, 1) := by decide +kernel
theorem dX9_bestGap_65 : decode cX9_bestGap 65 = .ok (.invokevirtual 203, 3) := by decide +kernel
theorem dX9_bestGap_68 : decode cX9_bestGap 68 = .ok (.pop, 1) := by decide +kernel
theorem dX9_bestGap_69 : decode cX9_bestGap 69 = .ok (.aload_n 0, 1) := by decide +kernel
theorem dX9_bestGap_70 : decode cX9_bestGap 70 = .ok (.getfield 16, 3) := by decide +kernel
theorem dX9_bestGap_73 : decode cX9_bestGap 73 = .ok (.getfield 190, 3) := by decide +kernel
theorem dX9_bestGap_76 : decode cX9_bestGap 76 = .ok (.aload_n 0, 1) := by decide +kernel
theorem dX9_bestGap_77 : decode cX9_bestGap 77 = .ok (.getfield 10, 3) := by decide +kernel
theorem dX9_bestGap_80 : decode cX9_bestGap 80 = .ok (.getfield 190, 3) := by decide +kernel
theorem dX9_bestGap_83 : decode cX9_bestGap 83 = .ok (.isub, 1) := by decide +kernel
theorem dX9_bestGap_84 : decode cX9_bestGap 84 = .ok (.iload 4, 2) := by decide +kernel
theorem dX9_bestGap_86 : decode cX9_bestGap 86 = .ok (.if_icmp .le 23, 3) := by decide +kernel
theorem dX9_bestGap_89 : decode cX9_bestGap 89 = .ok (.aload_n 0, 1) := by decide +kernel
theorem dX9_bestGap_90 : decode cX9_bestGap 90 = .ok (.getfield 16, 3) := by decide +kernel
theorem dX9_bestGap_93 : decode cX9_bestGap 93 = .ok (.getfield 190, 3) := by decide +kernel
theorem dX9_bestGap_96 : decode cX9_bestGap 96 = .ok (.aload_n 0, 1) := by decide +kernel
theorem dX9_bestGap_97 : decode cX9_bestGap 97 = .ok (.getfield 10, 3) := by decide +kernel
theorem dX9_bestGap_100 : decode cX9_bestGap 100 = .ok (.getfield 190, 3) := by decide +kernel
theorem dX9_bestGap_103 : decode cX9_bestGap 103 = .ok (.isub, 1) := by decide +kernel
theorem dX9_bestGap_104 : decode cX9_bestGap 104 = .ok (.istore 4, 2) := by decide +kernel
theorem dX9_bestGap_106 : decode cX9_bestGap 106 = .ok (.iload 5, 2) := by decide +kernel
theorem dX9_bestGap_108 : decode cX9_bestGap 108 = .ok (.istore_n 3, 1) := by decide +kernel
theorem dX9_bestGap_109 : decode cX9_bestGap 109 = .ok (.iinc 5 1, 3) := by decide +kernel
theorem dX9_bestGap_112 : decode cX9_bestGap 112 = .ok (.goto (-82), 3) := by decide +kernel
theorem dX9_bestGap_115 : decode cX9_bestGap 115 = .ok (.iload_n 2, 1) := by decide +kernel
theorem dX9_bestGap_116 : decode cX9_bestGap 116 = .ok (.ifCond .ne 7, 3) := by decide +kernel
theorem dX9_bestGap_119 : decode cX9_bestGap 119 = .ok (.iload_n 3, 1) := by decide +kernel
theorem dX9_bestGap_120 : decode cX9_bestGap 120 = .ok (.goto 5, 3) := by decide +kernel
theorem dX9_bestGap_123 : decode cX9_bestGap 123 = .ok (.iload 4, 2) := by decide +kernel
theorem dX9_bestGap_125 : decode cX9_bestGap 125 = .ok (.ireturn, 1) := by decide +kernel
set_option maxRecDepth 20000 in
theorem ggX9_leastTrucks_X9_within : GoodIn wsX9_leastTrucks wsX9_within := goodIn_r _ [10] (by decide +kernel) (by decide +kernel)
set_option maxRecDepth 20000 in
theorem gX9_leastTrucks_X9_within : GoodIn wsX9_leastTrucks (va_wsS RX9 116 yX9_within wsX9_within) := goodIn_app (goodIn_of _ (by decide +kernel)) ggX9_leastTrucks_X9_within
set_option maxRecDepth 20000 in
theorem ggX9_leastTrucks_X8_leastSetting : GoodIn wsX9_leastTrucks wsX8_leastSetting := goodIn_r _ [15, 16, 201, 202, 203, 204] (by decide +kernel) (by decide +kernel)
set_option maxRecDepth 20000 in
theorem gX9_leastTrucks_X8_leastSetting : GoodIn wsX9_leastTrucks (wsV RX9 208 RX8 yX8_leastSetting wsX8_leastSetting) := goodIn_app (goodIn_of _ (by decide +kernel)) ggX9_leastTrucks_X8_leastSetting
set_option maxRecDepth 20000 in
theorem ggX9_leastTrucks_X6_copyFrom : GoodIn wsX9_leastTrucks wsX6_copyFrom := goodIn_r _ [21, 22, 23, 24, 25, 26, 27, 28, 29, 30, 31, 9, 32, 33, 34, 35, 36, 37, 38, 39, 40, 41, 42, 43, 44, 45, 46, 47, 48, 49, 50, 51, 52, 53, 14, 54, 16, 55, 56, 57, 58, 59, 60, 61, 62, 63, 64, 65, 66, 67, 68, 69, 70, 71, 72, 73, 189, 190, 191, 192, 193, 194, 195, 196, 197, 198, 205, 206, 207, 208, 209, 201, 202, 203, 204, 210, 211, 212, 213, 199, 200] (by decide +kernel) (by decide +kernel)
set_option maxRecDepth 20000 in
theorem gX9_leastTrucks_X6_copyFrom : GoodIn wsX9_leastTrucks (wsV RX9 200 RX6 yX6_copyFrom wsX6_copyFrom) := goodIn_app (goodIn_of _ (by decide +kernel)) ggX9_leastTrucks_X6_copyFrom
set_option maxRecDepth 20000 in
theorem ggX9_leastTrucks_X6_runDays : GoodIn wsX9_leastTrucks wsX6_runDays := goodIn_r _ [77, 28, 26, 78, 22, 25, 27, 79, 80, 81, 20, 82, 24, 83, 84, 23, 85, 86, 87, 88, 89, 44, 90, 50, 91, 92, 93, 61, 94, 63, 8, 9, 10, 95, 96, 97, 98, 99, 34, 35, 36, 100, 30, 101, 102, 103, 14, 104, 16, 105, 106, 107, 108, 46, 109, 110, 111, 112, 113, 47, 114, 115, 116, 117, 118, 55, 56, 57, 119, 120, 121, 122, 123, 124, 125, 126, 127, 65, 128, 129, 130, 131, 132, 133, 134, 64, 66, 135, 136, 137, 138, 139, 140, 141, 29, 142, 143, 144, 145, 146, 147, 148, 149, 150, 151, 152, 153, 154, 155, 156, 157, 158, 159, 160, 70, 161, 72, 162, 163, 164, 165, 73, 166, 167, 168, 169, 170, 171, 172, 173, 174, 175, 176, 177, 178, 179, 180, 181, 182, 183, 38, 39, 40, 189, 190, 191, 192, 193, 194, 195, 196, 197, 198, 199, 200, 201, 202, 203, 204, 205, 206, 207, 208, 209, 210, 211, 212, 213, 214, 215, 216, 217, 218, 219, 220, 221] (by decide +kernel) (by decide +kernel)
set_option maxRecDepth 20000 in
theorem gX9_leastTrucks_X6_runDays : GoodIn wsX9_leastTrucks (wsV RX9 203 RX6 yX6_runDays wsX6_runDays) := goodIn_app (goodIn_of _ (by decide +kernel)) ggX9_leastTrucks_X6_runDays
theorem dX9_leastTrucks_0 : decode cX9_leastTrucks 0 = .ok (.iload_n 1, 1) := by decide +kernel
theorem dX9_leastTrucks_1 : decode cX9_leastTrucks 1 = .ok (.iconst 1, 1) := by decide +kernel
theorem dX9_leastTrucks_2 : decode cX9_leastTrucks 2 = .ok (.bipush 30, 2) := by decide +kernel
theorem dX9_leastTrucks_4 : decode cX9_leastTrucks 4 = .ok (.invokestatic 116, 3) := by decide +kernel
theorem dX9_leastTrucks_7 : decode cX9_leastTrucks 7 = .ok (.ifCond .eq 7, 3) := by decide +kernel
theorem dX9_leastTrucks_10 : decode cX9_leastTrucks 10 = .ok (.iload_n 2, 1) := by decide +kernel
theorem dX9_leastTrucks_11 : decode cX9_leastTrucks 11 = .ok (.ifCond .ge 6, 3) := by decide +kernel
theorem dX9_leastTrucks_14 : decode cX9_leastTrucks 14 = .ok (.bipush (-2), 2) := by decide +kernel
theorem dX9_leastTrucks_16 : decode cX9_leastTrucks 16 = .ok (.ireturn, 1) := by decide +kernel
theorem dX9_leastTrucks_17 : decode cX9_leastTrucks 17 = .ok (.iload_n 2, 1) := by decide +kernel
theorem dX9_leastTrucks_18 : decode cX9_leastTrucks 18 = .ok (.aload_n 0, 1) := by decide +kernel
theorem dX9_leastTrucks_19 : decode cX9_leastTrucks 19 = .ok (.getfield 10, 3) := by decide +kernel
theorem dX9_leastTrucks_22 : decode cX9_leastTrucks 22 = .ok (.getfield 62, 3) := by decide +kernel
theorem dX9_leastTrucks_25 : decode cX9_leastTrucks 25 = .ok (.getfield 171, 3) := by decide +kernel
theorem dX9_leastTrucks_28 : decode cX9_leastTrucks 28 = .ok (.if_icmp .le 6, 3) := by decide +kernel
theorem dX9_leastTrucks_31 : decode cX9_leastTrucks 31 = .ok (.bipush (-6), 2) := by decide +kernel
theorem dX9_leastTrucks_33 : decode cX9_leastTrucks 33 = .ok (.ireturn, 1) := by decide +kernel
theorem dX9_leastTrucks_34 : decode cX9_leastTrucks 34 = .ok (.aload_n 0, 1) := by decide +kernel
theorem dX9_leastTrucks_35 : decode cX9_leastTrucks 35 = .ok (.getfield 10, 3) := by decide +kernel
theorem dX9_leastTrucks_38 : decode cX9_leastTrucks 38 = .ok (.getfield 101, 3) := by decide +kernel
theorem dX9_leastTrucks_41 : decode cX9_leastTrucks 41 = .ok (.invokevirtual 208, 3) := by decide +kernel
theorem dX9_leastTrucks_44 : decode cX9_leastTrucks 44 = .ok (.istore_n 3, 1) := by decide +kernel
theorem dX9_leastTrucks_45 : decode cX9_leastTrucks 45 = .ok (.iload_n 3, 1) := by decide +kernel
theorem dX9_leastTrucks_46 : decode cX9_leastTrucks 46 = .ok (.bipush 20, 2) := by decide +kernel
theorem dX9_leastTrucks_48 : decode cX9_leastTrucks 48 = .ok (.if_icmp .gt 45, 3) := by decide +kernel
theorem dX9_leastTrucks_51 : decode cX9_leastTrucks 51 = .ok (.aload_n 0, 1) := by decide +kernel
theorem dX9_leastTrucks_52 : decode cX9_leastTrucks 52 = .ok (.getfield 16, 3) := by decide +kernel
theorem dX9_leastTrucks_55 : decode cX9_leastTrucks 55 = .ok (.aload_n 0, 1) := by decide +kernel
theorem dX9_leastTrucks_56 : decode cX9_leastTrucks 56 = .ok (.getfield 10, 3) := by decide +kernel
theorem dX9_leastTrucks_59 : decode cX9_leastTrucks 59 = .ok (.invokevirtual 200, 3) := by decide +kernel
theorem dX9_leastTrucks_62 : decode cX9_leastTrucks 62 = .ok (.aload_n 0, 1) := by decide +kernel
theorem dX9_leastTrucks_63 : decode cX9_leastTrucks 63 = .ok (.getfield 16, 3) := by decide +kernel
theorem dX9_leastTrucks_66 : decode cX9_leastTrucks 66 = .ok (.getfield 113, 3) := by decide +kernel
theorem dX9_leastTrucks_69 : decode cX9_leastTrucks 69 = .ok (.iconst 0, 1) := by decide +kernel
theorem dX9_leastTrucks_70 : decode cX9_leastTrucks 70 = .ok (.iload_n 3, 1) := by decide +kernel
theorem dX9_leastTrucks_71 : decode cX9_leastTrucks 71 = .ok (.iastore, 1) := by decide +kernel
theorem dX9_leastTrucks_72 : decode cX9_leastTrucks 72 = .ok (.aload_n 0, 1) := by decide +kernel
theorem dX9_leastTrucks_73 : decode cX9_leastTrucks 73 = .ok (.getfield 16, 3) := by decide +kernel
theorem dX9_leastTrucks_76 : decode cX9_leastTrucks 76 = .ok (.iload_n 1, 1) := by decide +kernel
theorem dX9_leastTrucks_77 : decode cX9_leastTrucks 77 = .ok (.iconst 1, 1) := by decide +kernel
theorem dX9_leastTrucks_78 : decode cX9_leastTrucks 78 = .ok (.invokevirtual 203, 3) := by decide +kernel
theorem dX9_leastTrucks_81 : decode cX9_leastTrucks 81 = .ok (.iload_n 2, 1) := by decide +kernel
theorem dX9_leastTrucks_82 : decode cX9_leastTrucks 82 = .ok (.if_icmp .lt 5, 3) := by decide +kernel
theorem dX9_leastTrucks_85 : decode cX9_leastTrucks 85 = .ok (.iload_n 3, 1) := by decide +kernel
theorem dX9_leastTrucks_86 : decode cX9_leastTrucks 86 = .ok (.ireturn, 1) := by decide +kernel
theorem dX9_leastTrucks_87 : decode cX9_leastTrucks 87 = .ok (.iinc 3 1, 3) := by decide +kernel
theorem dX9_leastTrucks_90 : decode cX9_leastTrucks 90 = .ok (.goto (-45), 3) := by decide +kernel
theorem dX9_leastTrucks_93 : decode cX9_leastTrucks 93 = .ok (.bipush (-6), 2) := by decide +kernel
theorem dX9_leastTrucks_95 : decode cX9_leastTrucks 95 = .ok (.ireturn, 1) := by decide +kernel
set_option maxRecDepth 20000 in
theorem ggX9_put_X5_charactersIn : GoodIn wsX9_put wsX5_charactersIn := goodIn_r _ [6, 7, 8, 9, 10] (by decide +kernel) (by decide +kernel)
set_option maxRecDepth 20000 in
theorem gX9_put_X5_charactersIn : GoodIn wsX9_put (va_wsS RX9 211 yX5_charactersIn wsX5_charactersIn) := goodIn_app (goodIn_of _ (by decide +kernel)) ggX9_put_X5_charactersIn
set_option maxRecDepth 20000 in
theorem ggX9_put_X5_append : GoodIn wsX9_put wsX5_append := goodIn_r _ [14, 15, 16, 7, 8, 9, 10, 22, 23, 24, 25, 26, 27] (by decide +kernel) (by decide +kernel)
set_option maxRecDepth 20000 in
theorem gX9_put_X5_append : GoodIn wsX9_put (wsV RX9 215 RX5 yX5_append wsX5_append) := goodIn_app (goodIn_of _ (by decide +kernel)) ggX9_put_X5_append
theorem dX9_put_0 : decode cX9_put 0 = .ok (.lload_n 1, 1) := by decide +kernel
theorem dX9_put_1 : decode cX9_put 1 = .ok (.invokestatic 211, 3) := by decide +kernel
theorem dX9_put_4 : decode cX9_put 4 = .ok (.istore_n 3, 1) := by decide +kernel
theorem dX9_put_5 : decode cX9_put 5 = .ok (.iload_n 3, 1) := by decide +kernel
theorem dX9_put_6 : decode cX9_put 6 = .ok (.ifCond .ne 6, 3) := by decide +kernel
theorem dX9_put_9 : decode cX9_put 9 = .ok (.bipush (-2), 2) := by decide +kernel
theorem dX9_put_11 : decode cX9_put 11 = .ok (.ireturn, 1) := by decide +kernel
theorem dX9_put_12 : decode cX9_put 12 = .ok (.aload_n 0, 1) := by decide +kernel
theorem dX9_put_13 : decode cX9_put 13 = .ok (.getfield 36, 3) := by decide +kernel
theorem dX9_put_16 : decode cX9_put 16 = .ok (.getfield 196, 3) := by decide +kernel
theorem dX9_put_19 : decode cX9_put 19 = .ok (.iload_n 3, 1) := by decide +kernel
theorem dX9_put_20 : decode cX9_put 20 = .ok (.iadd, 1) := by decide +kernel
theorem dX9_put_21 : decode cX9_put 21 = .ok (.bipush 80, 2) := by decide +kernel
theorem dX9_put_23 : decode cX9_put 23 = .ok (.if_icmp .le 6, 3) := by decide +kernel
theorem dX9_put_26 : decode cX9_put 26 = .ok (.bipush (-4), 2) := by decide +kernel
theorem dX9_put_28 : decode cX9_put 28 = .ok (.ireturn, 1) := by decide +kernel
theorem dX9_put_29 : decode cX9_put 29 = .ok (.aload_n 0, 1) := by decide +kernel
theorem dX9_put_30 : decode cX9_put 30 = .ok (.getfield 36, 3) := by decide +kernel
theorem dX9_put_33 : decode cX9_put 33 = .ok (.lload_n 1, 1) := by decide +kernel
theorem dX9_put_34 : decode cX9_put 34 = .ok (.iload_n 3, 1) := by decide +kernel
theorem dX9_put_35 : decode cX9_put 35 = .ok (.invokevirtual 215, 3) := by decide +kernel
theorem dX9_put_38 : decode cX9_put 38 = .ok (.aload_n 0, 1) := by decide +kernel
theorem dX9_put_39 : decode cX9_put 39 = .ok (.getfield 36, 3) := by decide +kernel
theorem dX9_put_42 : decode cX9_put 42 = .ok (.getfield 196, 3) := by decide +kernel
theorem dX9_put_45 : decode cX9_put 45 = .ok (.ireturn, 1) := by decide +kernel
theorem dX9_wipe_0 : decode cX9_wipe 0 = .ok (.aload_n 0, 1) := by decide +kernel
theorem dX9_wipe_1 : decode cX9_wipe 1 = .ok (.getfield 36, 3) := by decide +kernel
theorem dX9_wipe_4 : decode cX9_wipe 4 = .ok (.getfield 196, 3) := by decide +kernel
theorem dX9_wipe_7 : decode cX9_wipe 7 = .ok (.istore_n 1, 1) := by decide +kernel
theorem dX9_wipe_8 : decode cX9_wipe 8 = .ok (.aload_n 0, 1) := by decide +kernel
theorem dX9_wipe_9 : decode cX9_wipe 9 = .ok (.getfield 36, 3) := by decide +kernel
theorem dX9_wipe_12 : decode cX9_wipe 12 = .ok (.iconst 0, 1) := by decide +kernel
theorem dX9_wipe_13 : decode cX9_wipe 13 = .ok (.putfield 196, 3) := by decide +kernel
theorem dX9_wipe_16 : decode cX9_wipe 16 = .ok (.iload_n 1, 1) := by decide +kernel
theorem dX9_wipe_17 : decode cX9_wipe 17 = .ok (.ireturn, 1) := by decide +kernel
set_option maxRecDepth 20000 in
theorem ggX9_fault_X5_firstFault : GoodIn wsX9_fault wsX5_firstFault := goodIn_r _ [6, 7, 8, 9, 10, 11, 5, 12, 13, 14, 15, 16, 17, 18, 19, 20, 21, 22, 23, 24, 25, 26, 27, 28, 29, 30, 31, 32, 33, 34, 35, 36, 37, 38, 39, 40, 41, 42, 43, 44, 45, 46, 47, 48, 49, 50, 51, 52, 53, 54, 55, 56, 57, 58, 59, 60, 61, 62, 63, 64, 65, 66, 67, 68, 69, 70, 71, 72, 73, 74, 75, 76, 77, 78, 79, 80, 81, 82, 83, 84, 85, 86, 87, 88, 89, 90, 91, 92, 93, 94, 95, 96, 97, 98, 99, 100, 101, 102, 103, 104, 105, 106, 107, 108, 109, 110, 111, 112, 113, 114, 115, 116, 117, 118, 119, 120, 121, 122, 123, 124, 125, 126, 127, 128, 129, 130, 131, 132, 133, 134, 135, 136, 137, 138, 139, 140, 141, 142, 143, 144, 145, 146, 147, 148, 149, 150, 151, 152, 153, 154, 155, 156, 157, 158, 159, 160, 161, 162, 163, 164, 170, 171, 172, 173, 174, 175] (by decide +kernel) (by decide +kernel)
set_option maxRecDepth 20000 in
theorem gX9_fault_X5_firstFault : GoodIn wsX9_fault (wsV RX9 219 RX5 yX5_firstFault wsX5_firstFault) := goodIn_app (goodIn_of _ (by decide +kernel)) ggX9_fault_X5_firstFault
theorem dX9_fault_0 : decode cX9_fault 0 = .ok (.aload_n 0, 1) := by decide +kernel
theorem dX9_fault_1 : decode cX9_fault 1 = .ok (.getfield 36, 3) := by decide +kernel
theorem dX9_fault_4 : decode cX9_fault 4 = .ok (.invokevirtual 219, 3) := by decide +kernel
theorem dX9_fault_7 : decode cX9_fault 7 = .ok (.ireturn, 1) := by decide +kernel
set_option maxRecDepth 20000 in
theorem ggX9_carryOut_X5_firstFault : GoodIn wsX9_carryOut wsX5_firstFault := goodIn_r _ [9, 10, 11, 12, 13, 14, 8, 15, 16, 17, 18, 19, 20, 21, 22, 23, 24, 25, 26, 27, 28, 29, 30, 31, 32, 33, 34, 35, 36, 37, 38, 39, 40, 41, 42, 43, 44, 45, 46, 47, 48, 49, 50, 51, 52, 53, 54, 55, 56, 57, 58, 59, 60, 61, 62, 63, 64, 65, 66, 67, 68, 69, 70, 71, 72, 73, 74, 75, 76, 77, 78, 79, 80, 81, 82, 83, 84, 85, 86, 87, 88, 89, 90, 91, 92, 93, 94, 95, 96, 97, 98, 99, 100, 101, 102, 103, 104, 105, 106, 107, 108, 109, 110, 111, 112, 113, 114, 115, 116, 117, 118, 119, 120, 121, 122, 123, 124, 125, 126, 127, 128, 129, 130, 131, 132, 133, 134, 135, 136, 137, 138, 139, 140, 141, 142, 143, 144, 145, 146, 147, 148, 149, 150, 151, 152, 153, 154, 155, 156, 157, 158, 159, 160, 161, 162, 163, 164, 165, 166, 167, 393, 394, 395, 396, 397, 398] (by decide +kernel) (by decide +kernel)
set_option maxRecDepth 20000 in
theorem gX9_carryOut_X5_firstFault : GoodIn wsX9_carryOut (wsV RX9 219 RX5 yX5_firstFault wsX5_firstFault) := goodIn_app (goodIn_of _ (by decide +kernel)) ggX9_carryOut_X5_firstFault
set_option maxRecDepth 20000 in
theorem ggX9_carryOut_X4_prepare : GoodIn wsX9_carryOut wsX4_prepare := goodIn_r _ [172, 173, 174, 148, 149, 150, 175, 176, 177, 178, 179, 180, 181, 182, 183, 184, 185, 186, 187, 188, 189, 190, 191, 60, 57, 61, 192, 193, 194, 195, 196, 197, 198, 199, 200, 201, 202, 203, 204, 205, 206, 207, 208, 209, 210, 211, 212, 213, 214, 215, 216, 217, 218, 219, 220, 221, 222, 223, 224, 225, 226, 227, 228, 229, 230, 399, 400, 401, 402, 403, 404, 405, 406, 407, 408, 409, 410, 411, 412, 413, 414, 415, 416, 417, 418, 419, 420, 421, 422, 423, 424, 425, 426] (by decide +kernel) (by decide +kernel)
set_option maxRecDepth 20000 in
theorem gX9_carryOut_X4_prepare : GoodIn wsX9_carryOut (wsV RX9 40 RX4 yX4_prepare wsX4_prepare) := goodIn_app (goodIn_of _ (by decide +kernel)) ggX9_carryOut_X4_prepare
set_option maxRecDepth 20000 in
theorem ggX9_carryOut_X5_startReading : GoodIn wsX9_carryOut wsX5_startReading := goodIn_r _ [15, 10, 393, 394, 395, 396, 397, 398] (by decide +kernel) (by decide +kernel)
set_option maxRecDepth 20000 in
theorem gX9_carryOut_X5_startReading : GoodIn wsX9_carryOut (wsV RX9 222 RX5 yX5_startReading wsX5_startReading) := goodIn_app (goodIn_of _ (by decide +kernel)) ggX9_carryOut_X5_startReading
set_option maxRecDepth 20000 in
theorem ggX9_carryOut_X5_readNextOrder : GoodIn wsX9_carryOut wsX5_readNextOrder := goodIn_r _ [167, 10, 160, 161, 162, 8, 163, 22, 23, 24, 25, 11, 26, 16, 17, 18, 19, 20, 21, 27, 28, 29, 30, 31, 32, 33, 34, 35, 36, 37, 38, 39, 40, 41, 42, 43, 44, 45, 46, 47, 48, 49, 50, 51, 52, 53, 54, 55, 56, 57, 58, 59, 60, 61, 62, 63, 64, 65, 66, 67, 68, 69, 70, 71, 72, 73, 74, 75, 76, 77, 78, 79, 80, 81, 82, 83, 84, 85, 86, 87, 88, 89, 90, 91, 92, 93, 94, 95, 96, 97, 98, 99, 100, 101, 102, 103, 104, 105, 106, 107, 108, 109, 110, 111, 112, 113, 114, 115, 116, 117, 118, 119, 120, 121, 122, 123, 124, 125, 126, 127, 128, 129, 130, 131, 132, 133, 134, 135, 136, 137, 138, 139, 140, 141, 142, 143, 144, 145, 146, 147, 148, 149, 150, 151, 152, 153, 154, 155, 156, 157, 158, 159, 393, 394, 395, 396, 397, 398] (by decide +kernel) (by decide +kernel)
set_option maxRecDepth 20000 in
theorem gX9_carryOut_X5_readNextOrder : GoodIn wsX9_carryOut (wsV RX9 225 RX5 yX5_readNextOrder wsX5_readNextOrder) := goodIn_app (goodIn_of _ (by decide +kernel)) ggX9_carryOut_X5_readNextOrder
set_option maxRecDepth 20000 in
theorem ggX9_carryOut_X9_obey : GoodIn wsX9_carryOut wsX9_obey := goodIn_r _ [236, 1, 237, 238, 3, 239, 240, 241, 242, 243, 244, 199, 245, 205, 201, 202, 203, 204, 148, 149, 150, 246, 247, 248, 227, 249, 230, 229, 250, 251, 252, 253, 254, 255, 178, 256, 182, 180, 257, 258, 259, 209, 260, 211, 261, 262, 263, 264, 185, 265, 266, 267, 268, 186, 184, 269, 183, 270, 271, 272, 273, 274, 275, 181, 276, 277, 278, 279, 280, 281, 282, 283, 284, 218, 285, 220, 286, 287, 288, 289, 290, 60, 57, 61, 291, 188, 292, 293, 294, 295, 296, 297, 298, 299, 300, 301, 302, 303, 304, 305, 306, 307, 308, 309, 212, 213, 214, 310, 311, 312, 313, 314, 315, 316, 317, 318, 222, 319, 56, 58, 320, 321, 322, 323, 221, 223, 324, 325, 326, 327, 328, 329, 330, 187, 331, 332, 333, 334, 335, 336, 337, 338, 339, 340, 341, 342, 343, 344, 345, 346, 347, 348, 349, 350, 351, 352, 353, 354, 355, 356, 357, 358, 359, 360, 361, 362, 363, 364, 365, 366, 367, 368, 369, 370, 371, 372, 193, 194, 195, 373, 374, 375, 376, 377, 388, 389, 390, 391, 392, 393, 394, 395, 396, 397, 398, 402, 403, 404, 405, 406, 407, 408, 409, 410, 411, 412, 413, 414, 415, 416, 425, 426, 417, 418, 419, 420, 421, 422, 423, 424, 427, 428, 429, 430, 431, 432, 433, 434] (by decide +kernel) (by decide +kernel)
set_option maxRecDepth 20000 in
theorem gX9_carryOut_X9_obey : GoodIn wsX9_carryOut (wsV RX9 229 RX9 yX9_obey wsX9_obey) := goodIn_app (goodIn_of _ (by decide +kernel)) ggX9_carryOut_X9_obey
set_option maxRecDepth 20000 in
theorem ggX9_carryOut_X9_recorded : GoodIn wsX9_carryOut wsX9_recorded := goodIn_r _ [381, 2, 382, 383, 384, 171, 385, 173, 386, 387, 60, 57, 61, 388, 389, 390, 391, 392, 399, 400, 401] (by decide +kernel) (by decide +kernel)
set_option maxRecDepth 20000 in
theorem gX9_carryOut_X9_recorded : GoodIn wsX9_carryOut (wsV RX9 48 RX9 yX9_recorded wsX9_recorded) := goodIn_app (goodIn_of _ (by decide +kernel)) ggX9_carryOut_X9_recorded
theorem dX9_carryOut_0 : decode cX9_carryOut 0 = .ok (.aload_n 0, 1) := by decide +kernel
theorem dX9_carryOut_1 : decode cX9_carryOut 1 = .ok (.getfield 36, 3) := by decide +kernel
theorem dX9_carryOut_4 : decode cX9_carryOut 4 = .ok (.invokevirtual 219, 3) := by decide +kernel
theorem dX9_carryOut_7 : decode cX9_carryOut 7 = .ok (.bipush (-6), 2) := by decide +kernel
theorem dX9_carryOut_9 : decode cX9_carryOut 9 = .ok (.if_icmp .eq 6, 3) := by decide +kernel
theorem dX9_carryOut_12 : decode cX9_carryOut 12 = .ok (.bipush (-3), 2) := by decide +kernel
theorem dX9_carryOut_14 : decode cX9_carryOut 14 = .ok (.ireturn, 1) := by decide +kernel
theorem dX9_carryOut_15 : decode cX9_carryOut 15 = .ok (.aload_n 0, 1) := by decide +kernel
theorem dX9_carryOut_16 : decode cX9_carryOut 16 = .ok (.getfield 22, 3) := by decide +kernel
theorem dX9_carryOut_19 : decode cX9_carryOut 19 = .ok (.aload_n 0, 1) := by decide +kernel
theorem dX9_carryOut_20 : decode cX9_carryOut 20 = .ok (.getfield 10, 3) := by decide +kernel
theorem dX9_carryOut_23 : decode cX9_carryOut 23 = .ok (.invokevirtual 40, 3) := by decide +kernel
theorem dX9_carryOut_26 : decode cX9_carryOut 26 = .ok (.iconst 0, 1) := by decide +kernel
theorem dX9_carryOut_27 : decode cX9_carryOut 27 = .ok (.istore_n 1, 1) := by decide +kernel
theorem dX9_carryOut_28 : decode cX9_carryOut 28 = .ok (.aload_n 0, 1) := by decide +kernel
theorem dX9_carryOut_29 : decode cX9_carryOut 29 = .ok (.getfield 36, 3) := by decide +kernel
theorem dX9_carryOut_32 : decode cX9_carryOut 32 = .ok (.invokevirtual 222, 3) := by decide +kernel
theorem dX9_carryOut_35 : decode cX9_carryOut 35 = .ok (.iload_n 1, 1) := by decide +kernel
theorem dX9_carryOut_36 : decode cX9_carryOut 36 = .ok (.bipush 80, 2) := by decide +kernel
theorem dX9_carryOut_38 : decode cX9_carryOut 38 = .ok (.if_icmp .ge 26, 3) := by decide +kernel
theorem dX9_carryOut_41 : decode cX9_carryOut 41 = .ok (.aload_n 0, 1) := by decide +kernel
theorem dX9_carryOut_42 : decode cX9_carryOut 42 = .ok (.getfield 36, 3) := by decide +kernel
theorem dX9_carryOut_45 : decode cX9_carryOut 45 = .ok (.invokevirtual 225, 3) := by decide +kernel
theorem dX9_carryOut_48 : decode cX9_carryOut 48 = .ok (.ifCond .eq 16, 3) := by decide +kernel
theorem dX9_carryOut_51 : decode cX9_carryOut 51 = .ok (.aload_n 0, 1) := by decide +kernel
theorem dX9_carryOut_52 : decode cX9_carryOut 52 = .ok (.invokevirtual 229, 3) := by decide +kernel
theorem dX9_carryOut_55 : decode cX9_carryOut 55 = .ok (.ifCond .lt 9, 3) := by decide +kernel
theorem dX9_carryOut_58 : decode cX9_carryOut 58 = .ok (.iinc 1 1, 3) := by decide +kernel
theorem dX9_carryOut_61 : decode cX9_carryOut 61 = .ok (.goto (-26), 3) := by decide +kernel
theorem dX9_carryOut_64 : decode cX9_carryOut 64 = .ok (.aload_n 0, 1) := by decide +kernel
theorem dX9_carryOut_65 : decode cX9_carryOut 65 = .ok (.getfield 36, 3) := by decide +kernel
theorem dX9_carryOut_68 : decode cX9_carryOut 68 = .ok (.iconst 0, 1) := by decide +kernel
theorem dX9_carryOut_69 : decode cX9_carryOut 69 = .ok (.putfield 196, 3) := by decide +kernel
theorem dX9_carryOut_72 : decode cX9_carryOut 72 = .ok (.aload_n 0, 1) := by decide +kernel
theorem dX9_carryOut_73 : decode cX9_carryOut 73 = .ok (.iload_n 1, 1) := by decide +kernel
theorem dX9_carryOut_74 : decode cX9_carryOut 74 = .ok (.invokevirtual 48, 3) := by decide +kernel
theorem dX9_carryOut_77 : decode cX9_carryOut 77 = .ok (.ireturn, 1) := by decide +kernel
set_option maxRecDepth 20000 in
theorem ggX9_undo_X4_takeLatest : GoodIn wsX9_undo wsX4_takeLatest := goodIn_r _ [8, 9, 10, 11, 12, 13, 14, 15, 16, 17, 18, 19, 20, 21, 22, 23, 24, 25, 26, 27, 28, 29, 30, 31, 32, 33, 34, 35, 36, 37, 38, 39, 40, 41, 42, 43, 44, 45, 46, 47, 48, 49, 50, 51, 52, 53, 54, 55, 56, 57, 58, 59, 60, 61, 62, 63, 64, 65, 66, 67, 68, 69, 70, 71, 72, 73, 79, 80, 81, 82, 83, 84, 85, 86, 87, 88, 89, 90, 91, 92, 93, 94, 95, 96, 97, 98, 99, 100, 101, 102, 103, 104, 105, 106] (by decide +kernel) (by decide +kernel)
set_option maxRecDepth 20000 in
theorem gX9_undo_X4_takeLatest : GoodIn wsX9_undo (wsV RX9 232 RX4 yX4_takeLatest wsX4_takeLatest) := goodIn_app (goodIn_of _ (by decide +kernel)) ggX9_undo_X4_takeLatest
theorem dX9_undo_0 : decode cX9_undo 0 = .ok (.aload_n 0, 1) := by decide +kernel
theorem dX9_undo_1 : decode cX9_undo 1 = .ok (.getfield 22, 3) := by decide +kernel
theorem dX9_undo_4 : decode cX9_undo 4 = .ok (.getfield 199, 3) := by decide +kernel
theorem dX9_undo_7 : decode cX9_undo 7 = .ok (.ifCond .ne 6, 3) := by decide +kernel
theorem dX9_undo_10 : decode cX9_undo 10 = .ok (.bipush (-5), 2) := by decide +kernel
theorem dX9_undo_12 : decode cX9_undo 12 = .ok (.ireturn, 1) := by decide +kernel
theorem dX9_undo_13 : decode cX9_undo 13 = .ok (.aload_n 0, 1) := by decide +kernel
theorem dX9_undo_14 : decode cX9_undo 14 = .ok (.getfield 22, 3) := by decide +kernel
theorem dX9_undo_17 : decode cX9_undo 17 = .ok (.aload_n 0, 1) := by decide +kernel
theorem dX9_undo_18 : decode cX9_undo 18 = .ok (.getfield 10, 3) := by decide +kernel
theorem dX9_undo_21 : decode cX9_undo 21 = .ok (.invokevirtual 232, 3) := by decide +kernel
theorem dX9_undo_24 : decode cX9_undo 24 = .ok (.aload_n 0, 1) := by decide +kernel
theorem dX9_undo_25 : decode cX9_undo 25 = .ok (.getfield 22, 3) := by decide +kernel
theorem dX9_undo_28 : decode cX9_undo 28 = .ok (.getfield 199, 3) := by decide +kernel
theorem dX9_undo_31 : decode cX9_undo 31 = .ok (.ireturn, 1) := by decide +kernel
set_option maxRecDepth 20000 in
theorem ggX9_save_X7_has : GoodIn wsX9_save wsX7_has := goodIn_r _ [9, 10, 11, 12] (by decide +kernel) (by decide +kernel)
set_option maxRecDepth 20000 in
theorem gX9_save_X7_has : GoodIn wsX9_save (wsV RX9 235 RX7 yX7_has wsX7_has) := goodIn_app (goodIn_of _ (by decide +kernel)) ggX9_save_X7_has
set_option maxRecDepth 20000 in
theorem ggX9_save_X7_fill : GoodIn wsX9_save wsX7_fill := goodIn_r _ [16, 17, 18, 19, 6, 7, 8, 9, 10, 11, 12, 20, 21, 22, 23, 24, 25, 26, 27, 28, 29, 30, 31, 32, 33, 34, 35, 36, 37, 38, 39, 40, 41, 42, 43, 44, 45, 46, 47, 48, 49, 50, 51, 52, 53, 54, 55, 56, 57, 58, 59, 60, 61, 62, 63, 64, 65, 66, 67, 68, 69, 70, 71, 72, 73, 74, 75, 76, 77, 78, 99, 100, 84, 85, 86, 87, 88, 89, 90, 91, 92, 93, 94, 95, 96, 97, 98, 101, 102, 103, 104, 105, 106, 107, 108, 109, 110] (by decide +kernel) (by decide +kernel)
set_option maxRecDepth 20000 in
theorem gX9_save_X7_fill : GoodIn wsX9_save (wsV RX9 236 RX7 yX7_fill wsX7_fill) := goodIn_app (goodIn_of _ (by decide +kernel)) ggX9_save_X7_fill
theorem dX9_save_0 : decode cX9_save 0 = .ok (.aload_n 0, 1) := by decide +kernel
theorem dX9_save_1 : decode cX9_save 1 = .ok (.getfield 29, 3) := by decide +kernel
theorem dX9_save_4 : decode cX9_save 4 = .ok (.iload_n 1, 1) := by decide +kernel
theorem dX9_save_5 : decode cX9_save 5 = .ok (.invokevirtual 235, 3) := by decide +kernel
theorem dX9_save_8 : decode cX9_save 8 = .ok (.ifCond .ne 6, 3) := by decide +kernel
theorem dX9_save_11 : decode cX9_save 11 = .ok (.bipush (-2), 2) := by decide +kernel
theorem dX9_save_13 : decode cX9_save 13 = .ok (.ireturn, 1) := by decide +kernel
theorem dX9_save_14 : decode cX9_save 14 = .ok (.aload_n 0, 1) := by decide +kernel
theorem dX9_save_15 : decode cX9_save 15 = .ok (.getfield 29, 3) := by decide +kernel
theorem dX9_save_18 : decode cX9_save 18 = .ok (.iload_n 1, 1) := by decide +kernel
theorem dX9_save_19 : decode cX9_save 19 = .ok (.aload_n 0, 1) := by decide +kernel
theorem dX9_save_20 : decode cX9_save 20 = .ok (.getfield 10, 3) := by decide +kernel
theorem dX9_save_23 : decode cX9_save 23 = .ok (.invokevirtual 236, 3) := by decide +kernel
theorem dX9_save_26 : decode cX9_save 26 = .ok (.aload_n 0, 1) := by decide +kernel
theorem dX9_save_27 : decode cX9_save 27 = .ok (.getfield 10, 3) := by decide +kernel
theorem dX9_save_30 : decode cX9_save 30 = .ok (.getfield 52, 3) := by decide +kernel
theorem dX9_save_33 : decode cX9_save 33 = .ok (.getfield 168, 3) := by decide +kernel
theorem dX9_save_36 : decode cX9_save 36 = .ok (.ireturn, 1) := by decide +kernel
set_option maxRecDepth 20000 in
theorem ggX9_restore_X7_has : GoodIn wsX9_restore wsX7_has := goodIn_r _ [12, 13, 14, 15] (by decide +kernel) (by decide +kernel)
set_option maxRecDepth 20000 in
theorem gX9_restore_X7_has : GoodIn wsX9_restore (wsV RX9 235 RX7 yX7_has wsX7_has) := goodIn_app (goodIn_of _ (by decide +kernel)) ggX9_restore_X7_has
set_option maxRecDepth 20000 in
theorem ggX9_restore_X4_prepare : GoodIn wsX9_restore wsX4_prepare := goodIn_r _ [20, 21, 22, 13, 14, 15, 23, 24, 25, 26, 27, 28, 29, 30, 31, 32, 33, 34, 35, 36, 37, 38, 39, 40, 41, 42, 43, 44, 45, 46, 47, 48, 49, 50, 51, 52, 53, 54, 55, 56, 57, 58, 59, 60, 61, 62, 63, 64, 65, 66, 67, 68, 69, 70, 71, 72, 73, 74, 75, 76, 77, 78, 79, 80, 81, 115, 116, 117, 100, 101, 102, 103, 104, 105, 106, 107, 108, 109, 110, 111, 112, 113, 114, 118, 119, 120, 121, 122, 123, 124, 125, 126, 127] (by decide +kernel) (by decide +kernel)
set_option maxRecDepth 20000 in
theorem gX9_restore_X4_prepare : GoodIn wsX9_restore (wsV RX9 40 RX4 yX4_prepare wsX4_prepare) := goodIn_app (goodIn_of _ (by decide +kernel)) ggX9_restore_X4_prepare
set_option maxRecDepth 20000 in
theorem ggX9_restore_X6_copyFrom : GoodIn wsX9_restore wsX6_copyFrom := goodIn_r _ [27, 28, 29, 30, 31, 32, 33, 34, 35, 36, 37, 14, 38, 39, 40, 41, 42, 43, 44, 45, 46, 47, 48, 49, 50, 51, 52, 53, 54, 55, 56, 57, 58, 59, 60, 61, 62, 63, 64, 65, 66, 67, 68, 69, 70, 71, 72, 73, 74, 75, 76, 77, 78, 79, 80, 81, 100, 101, 102, 103, 104, 105, 106, 107, 108, 109, 110, 111, 112, 113, 114, 118, 119, 120, 121, 122, 123, 124, 125, 126, 127] (by decide +kernel) (by decide +kernel)
set_option maxRecDepth 20000 in
theorem gX9_restore_X6_copyFrom : GoodIn wsX9_restore (wsV RX9 200 RX6 yX6_copyFrom wsX6_copyFrom) := goodIn_app (goodIn_of _ (by decide +kernel)) ggX9_restore_X6_copyFrom
set_option maxRecDepth 20000 in
theorem ggX9_restore_X9_recorded : GoodIn wsX9_restore wsX9_recorded := goodIn_r _ [86, 3, 87, 88, 89, 19, 90, 21, 91, 92, 40, 41, 42, 93, 94, 95, 96, 97, 115, 116, 117] (by decide +kernel) (by decide +kernel)
set_option maxRecDepth 20000 in
theorem gX9_restore_X9_recorded : GoodIn wsX9_restore (wsV RX9 48 RX9 yX9_recorded wsX9_recorded) := goodIn_app (goodIn_of _ (by decide +kernel)) ggX9_restore_X9_recorded
theorem dX9_restore_0 : decode cX9_restore 0 = .ok (.aload_n 0, 1) := by decide +kernel
theorem dX9_restore_1 : decode cX9_restore 1 = .ok (.getfield 29, 3) := by decide +kernel
theorem dX9_restore_4 : decode cX9_restore 4 = .ok (.iload_n 1, 1) := by decide +kernel
theorem dX9_restore_5 : decode cX9_restore 5 = .ok (.invokevirtual 235, 3) := by decide +kernel
theorem dX9_restore_8 : decode cX9_restore 8 = .ok (.ifCond .ne 6, 3) := by decide +kernel
theorem dX9_restore_11 : decode cX9_restore 11 = .ok (.bipush (-2), 2) := by decide +kernel
theorem dX9_restore_13 : decode cX9_restore 13 = .ok (.ireturn, 1) := by decide +kernel
theorem dX9_restore_14 : decode cX9_restore 14 = .ok (.aload_n 0, 1) := by decide +kernel
theorem dX9_restore_15 : decode cX9_restore 15 = .ok (.getfield 29, 3) := by decide +kernel
theorem dX9_restore_18 : decode cX9_restore 18 = .ok (.getfield 240, 3) := by decide +kernel
theorem dX9_restore_21 : decode cX9_restore 21 = .ok (.iload_n 1, 1) := by decide +kernel
theorem dX9_restore_22 : decode cX9_restore 22 = .ok (.baload, 1) := by decide +kernel
theorem dX9_restore_23 : decode cX9_restore 23 = .ok (.ifCond .ne 6, 3) := by decide +kernel
theorem dX9_restore_26 : decode cX9_restore 26 = .ok (.bipush (-5), 2) := by decide +kernel
theorem dX9_restore_28 : decode cX9_restore 28 = .ok (.ireturn, 1) := by decide +kernel
theorem dX9_restore_29 : decode cX9_restore 29 = .ok (.aload_n 0, 1) := by decide +kernel
theorem dX9_restore_30 : decode cX9_restore 30 = .ok (.getfield 22, 3) := by decide +kernel
theorem dX9_restore_33 : decode cX9_restore 33 = .ok (.aload_n 0, 1) := by decide +kernel
theorem dX9_restore_34 : decode cX9_restore 34 = .ok (.getfield 10, 3) := by decide +kernel
theorem dX9_restore_37 : decode cX9_restore 37 = .ok (.invokevirtual 40, 3) := by decide +kernel
theorem dX9_restore_40 : decode cX9_restore 40 = .ok (.aload_n 0, 1) := by decide +kernel
theorem dX9_restore_41 : decode cX9_restore 41 = .ok (.getfield 10, 3) := by decide +kernel
theorem dX9_restore_44 : decode cX9_restore 44 = .ok (.aload_n 0, 1) := by decide +kernel
theorem dX9_restore_45 : decode cX9_restore 45 = .ok (.getfield 29, 3) := by decide +kernel
theorem dX9_restore_48 : decode cX9_restore 48 = .ok (.getfield 244, 3) := by decide +kernel
theorem dX9_restore_51 : decode cX9_restore 51 = .ok (.iload_n 1, 1) := by decide +kernel
theorem dX9_restore_52 : decode cX9_restore 52 = .ok (.aaload, 1) := by decide +kernel
theorem dX9_restore_53 : decode cX9_restore 53 = .ok (.invokevirtual 200, 3) := by decide +kernel
theorem dX9_restore_56 : decode cX9_restore 56 = .ok (.aload_n 0, 1) := by decide +kernel
theorem dX9_restore_57 : decode cX9_restore 57 = .ok (.aload_n 0, 1) := by decide +kernel
theorem dX9_restore_58 : decode cX9_restore 58 = .ok (.getfield 10, 3) := by decide +kernel
theorem dX9_restore_61 : decode cX9_restore 61 = .ok (.getfield 52, 3) := by decide +kernel
theorem dX9_restore_64 : decode cX9_restore 64 = .ok (.getfield 168, 3) := by decide +kernel
theorem dX9_restore_67 : decode cX9_restore 67 = .ok (.invokevirtual 48, 3) := by decide +kernel
theorem dX9_restore_70 : decode cX9_restore 70 = .ok (.ireturn, 1) := by decide +kernel
set_option maxRecDepth 20000 in
theorem ggX9_recorded_X4_keepPrepared : GoodIn wsX9_recorded wsX4_keepPrepared := goodIn_r _ [6, 7, 8, 9, 10, 11, 12, 18, 19, 20] (by decide +kernel) (by decide +kernel)
set_option maxRecDepth 20000 in
theorem gX9_recorded_X4_keepPrepared : GoodIn wsX9_recorded (wsV RX9 248 RX4 yX4_keepPrepared wsX4_keepPrepared) := goodIn_app (goodIn_of _ (by decide +kernel)) ggX9_recorded_X4_keepPrepared
theorem dX9_recorded_0 : decode cX9_recorded 0 = .ok (.iload_n 1, 1) := by decide +kernel
theorem dX9_recorded_1 : decode cX9_recorded 1 = .ok (.ifCond .lt 10, 3) := by decide +kernel
theorem dX9_recorded_4 : decode cX9_recorded 4 = .ok (.aload_n 0, 1) := by decide +kernel
theorem dX9_recorded_5 : decode cX9_recorded 5 = .ok (.getfield 22, 3) := by decide +kernel
theorem dX9_recorded_8 : decode cX9_recorded 8 = .ok (.invokevirtual 248, 3) := by decide +kernel
theorem dX9_recorded_11 : decode cX9_recorded 11 = .ok (.iload_n 1, 1) := by decide +kernel
theorem dX9_recorded_12 : decode cX9_recorded 12 = .ok (.ireturn, 1) := by decide +kernel
set_option maxRecDepth 20000 in
theorem ggX9_obey_X3_add : GoodIn wsX9_obey wsX3_add := goodIn_r _ [12, 13, 14, 15, 16, 17, 18, 19, 20, 205, 206, 207, 208, 209] (by decide +kernel) (by decide +kernel)
set_option maxRecDepth 20000 in
theorem gX9_obey_X3_add : GoodIn wsX9_obey (wsV RX9 56 RX3 yX3_add wsX3_add) := goodIn_app (goodIn_of _ (by decide +kernel)) ggX9_obey_X3_add
set_option maxRecDepth 20000 in
theorem ggX9_obey_X1_add : GoodIn wsX9_obey wsX1_add := goodIn_r _ [25, 26, 27, 18, 19, 20, 28, 29, 24, 30, 210, 211] (by decide +kernel) (by decide +kernel)
set_option maxRecDepth 20000 in
theorem gX9_obey_X1_add : GoodIn wsX9_obey (wsV RX9 66 RX1 yX1_add wsX1_add) := goodIn_app (goodIn_of _ (by decide +kernel)) ggX9_obey_X1_add
set_option maxRecDepth 20000 in
theorem ggX9_obey_X6_changeSetting : GoodIn wsX9_obey wsX6_changeSetting := goodIn_r _ [35, 36, 37, 18, 19, 20, 38, 39, 40, 41, 42, 43, 195, 196, 197, 198, 199, 200, 201, 202, 203, 204, 212, 213, 214, 215] (by decide +kernel) (by decide +kernel)
set_option maxRecDepth 20000 in
theorem gX9_obey_X6_changeSetting : GoodIn wsX9_obey (wsV RX9 44 RX6 yX6_changeSetting wsX6_changeSetting) := goodIn_app (goodIn_of _ (by decide +kernel)) ggX9_obey_X6_changeSetting
set_option maxRecDepth 20000 in
theorem ggX9_obey_X6_passDays : GoodIn wsX9_obey wsX6_passDays := goodIn_r _ [47, 48, 37, 18, 19, 20, 49, 50, 51, 34, 52, 53, 54, 55, 56, 57, 58, 59, 60, 36, 61, 62, 63, 64, 65, 66, 67, 68, 11, 69, 13, 70, 71, 72, 73, 74, 75, 76, 77, 78, 79, 80, 81, 82, 83, 84, 85, 86, 87, 88, 41, 89, 43, 90, 91, 92, 93, 14, 94, 95, 96, 97, 98, 15, 99, 100, 101, 102, 103, 104, 105, 106, 107, 108, 109, 110, 111, 112, 113, 114, 115, 116, 117, 118, 119, 120, 121, 122, 123, 124, 125, 126, 127, 128, 129, 130, 131, 132, 133, 134, 135, 136, 137, 138, 139, 140, 141, 142, 143, 144, 145, 146, 147, 148, 149, 150, 151, 152, 24, 153, 27, 154, 155, 156, 157, 26, 158, 159, 160, 161, 162, 163, 164, 165, 166, 167, 168, 169, 170, 171, 172, 173, 174, 175, 176, 177, 178, 195, 196, 197, 198, 199, 200, 201, 202, 203, 204, 210, 211, 212, 213, 214, 215, 205, 206, 207, 208, 209, 216, 217, 218, 219, 220, 221, 222, 223, 224, 225, 226, 227] (by decide +kernel) (by decide +kernel)
set_option maxRecDepth 20000 in
theorem gX9_obey_X6_passDays : GoodIn wsX9_obey (wsV RX9 84 RX6 yX6_passDays wsX6_passDays) := goodIn_app (goodIn_of _ (by decide +kernel)) ggX9_obey_X6_passDays
set_option maxRecDepth 20000 in
theorem ggX9_obey_X2_becomeAsNew : GoodIn wsX9_obey wsX2_becomeAsNew := goodIn_r _ [182, 116, 216, 217, 218, 219] (by decide +kernel) (by decide +kernel)
set_option maxRecDepth 20000 in
theorem gX9_obey_X2_becomeAsNew : GoodIn wsX9_obey (wsV RX9 78 RX2 yX2_becomeAsNew wsX2_becomeAsNew) := goodIn_app (goodIn_of _ (by decide +kernel)) ggX9_obey_X2_becomeAsNew
set_option maxRecDepth 20000 in
theorem ggX9_obey_X1_dropOne : GoodIn wsX9_obey wsX1_dropOne := goodIn_r _ [173, 26, 174, 81, 82, 83, 27, 175, 176, 177, 178, 154, 155, 156, 24, 157, 210, 211] (by decide +kernel) (by decide +kernel)
set_option maxRecDepth 20000 in
theorem gX9_obey_X1_dropOne : GoodIn wsX9_obey (wsV RX9 71 RX1 yX1_dropOne wsX1_dropOne) := goodIn_app (goodIn_of _ (by decide +kernel)) ggX9_obey_X1_dropOne
theorem dX9_obey_0 : decode cX9_obey 0 = .ok (.aload_n 0, 1) := by decide +kernel
theorem dX9_obey_1 : decode cX9_obey 1 = .ok (.getfield 36, 3) := by decide +kernel
theorem dX9_obey_4 : decode cX9_obey 4 = .ok (.getfield 251, 3) := by decide +kernel
theorem dX9_obey_7 : decode cX9_obey 7 = .ok (.astore_n 1, 1) := by decide +kernel
theorem dX9_obey_8 : decode cX9_obey 8 = .ok (.aload_n 0, 1) := by decide +kernel
theorem dX9_obey_9 : decode cX9_obey 9 = .ok (.getfield 36, 3) := by decide +kernel
theorem dX9_obey_12 : decode cX9_obey 12 = .ok (.getfield 254, 3) := by decide +kernel
theorem dX9_obey_15 : decode cX9_obey 15 = .ok (.tableswitch 134 0 5 #[37, 57, 86, 98, 109, 120], 37) := by decide +kernel
theorem dX9_obey_52 : decode cX9_obey 52 = .ok (.aload_n 0, 1) := by decide +kernel
theorem dX9_obey_53 : decode cX9_obey 53 = .ok (.getfield 10, 3) := by decide +kernel
theorem dX9_obey_56 : decode cX9_obey 56 = .ok (.getfield 52, 3) := by decide +kernel
theorem dX9_obey_59 : decode cX9_obey 59 = .ok (.aload_n 1, 1) := by decide +kernel
theorem dX9_obey_60 : decode cX9_obey 60 = .ok (.iconst 0, 1) := by decide +kernel
theorem dX9_obey_61 : decode cX9_obey 61 = .ok (.iaload, 1) := by decide +kernel
theorem dX9_obey_62 : decode cX9_obey 62 = .ok (.aload_n 1, 1) := by decide +kernel
theorem dX9_obey_63 : decode cX9_obey 63 = .ok (.iconst 1, 1) := by decide +kernel
theorem dX9_obey_64 : decode cX9_obey 64 = .ok (.iaload, 1) := by decide +kernel
theorem dX9_obey_65 : decode cX9_obey 65 = .ok (.aload_n 1, 1) := by decide +kernel
theorem dX9_obey_66 : decode cX9_obey 66 = .ok (.iconst 2, 1) := by decide +kernel
theorem dX9_obey_67 : decode cX9_obey 67 = .ok (.iaload, 1) := by decide +kernel
theorem dX9_obey_68 : decode cX9_obey 68 = .ok (.invokevirtual 56, 3) := by decide +kernel
theorem dX9_obey_71 : decode cX9_obey 71 = .ok (.ireturn, 1) := by decide +kernel
theorem dX9_obey_72 : decode cX9_obey 72 = .ok (.aload_n 0, 1) := by decide +kernel
theorem dX9_obey_73 : decode cX9_obey 73 = .ok (.getfield 10, 3) := by decide +kernel
theorem dX9_obey_76 : decode cX9_obey 76 = .ok (.getfield 62, 3) := by decide +kernel
theorem dX9_obey_79 : decode cX9_obey 79 = .ok (.aload_n 1, 1) := by decide +kernel
theorem dX9_obey_80 : decode cX9_obey 80 = .ok (.iconst 0, 1) := by decide +kernel
theorem dX9_obey_81 : decode cX9_obey 81 = .ok (.iaload, 1) := by decide +kernel
theorem dX9_obey_82 : decode cX9_obey 82 = .ok (.aload_n 1, 1) := by decide +kernel
theorem dX9_obey_83 : decode cX9_obey 83 = .ok (.iconst 1, 1) := by decide +kernel
theorem dX9_obey_84 : decode cX9_obey 84 = .ok (.iaload, 1) := by decide +kernel
theorem dX9_obey_85 : decode cX9_obey 85 = .ok (.aload_n 1, 1) := by decide +kernel
theorem dX9_obey_86 : decode cX9_obey 86 = .ok (.iconst 2, 1) := by decide +kernel
theorem dX9_obey_87 : decode cX9_obey 87 = .ok (.iaload, 1) := by decide +kernel
theorem dX9_obey_88 : decode cX9_obey 88 = .ok (.aload_n 1, 1) := by decide +kernel
theorem dX9_obey_89 : decode cX9_obey 89 = .ok (.iconst 3, 1) := by decide +kernel
theorem dX9_obey_90 : decode cX9_obey 90 = .ok (.iaload, 1) := by decide +kernel
theorem dX9_obey_91 : decode cX9_obey 91 = .ok (.aload_n 1, 1) := by decide +kernel
theorem dX9_obey_92 : decode cX9_obey 92 = .ok (.iconst 4, 1) := by decide +kernel
theorem dX9_obey_93 : decode cX9_obey 93 = .ok (.iaload, 1) := by decide +kernel
theorem dX9_obey_94 : decode cX9_obey 94 = .ok (.aload_n 1, 1) := by decide +kernel
