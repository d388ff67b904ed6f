theorem dX10_mend_17 : decode cX10_mend 17 = .ok (.aload_n 0, 1) := by decide +kernel
theorem dX10_mend_18 : decode cX10_mend 18 = .ok (.getfield 7, 3) := by decide +kernel
theorem dX10_mend_21 : decode cX10_mend 21 = .ok (.bipush 10, 2) := by decide +kernel
theorem dX10_mend_23 : decode cX10_mend 23 = .ok (.iconst 0, 1) := by decide +kernel
theorem dX10_mend_24 : decode cX10_mend 24 = .ok (.iastore, 1) := by decide +kernel
theorem dX10_mend_25 : decode cX10_mend 25 = .ok (.iload_n 1, 1) := by decide +kernel
theorem dX10_mend_26 : decode cX10_mend 26 = .ok (.ireturn, 1) := by decide +kernel
set_option maxRecDepth 20000 in
theorem ggX10_refusesPass_X10_in : GoodIn wsX10_refusesPass wsX10_in := goodIn_r _ [5] (by decide +kernel) (by decide +kernel)
set_option maxRecDepth 20000 in
theorem gX10_refusesPass_X10_in : GoodIn wsX10_refusesPass (va_wsS RX10 92 yX10_in wsX10_in) := goodIn_app (goodIn_of _ (by decide +kernel)) ggX10_refusesPass_X10_in
theorem dX10_refusesPass_0 : decode cX10_refusesPass 0 = .ok (.iload_n 1, 1) := by decide +kernel
theorem dX10_refusesPass_1 : decode cX10_refusesPass 1 = .ok (.iconst 1, 1) := by decide +kernel
theorem dX10_refusesPass_2 : decode cX10_refusesPass 2 = .ok (.bipush 30, 2) := by decide +kernel
theorem dX10_refusesPass_4 : decode cX10_refusesPass 4 = .ok (.invokestatic 92, 3) := by decide +kernel
theorem dX10_refusesPass_7 : decode cX10_refusesPass 7 = .ok (.ifCond .ne 6, 3) := by decide +kernel
theorem dX10_refusesPass_10 : decode cX10_refusesPass 10 = .ok (.bipush (-2), 2) := by decide +kernel
theorem dX10_refusesPass_12 : decode cX10_refusesPass 12 = .ok (.ireturn, 1) := by decide +kernel
theorem dX10_refusesPass_13 : decode cX10_refusesPass 13 = .ok (.aload_n 0, 1) := by decide +kernel
theorem dX10_refusesPass_14 : decode cX10_refusesPass 14 = .ok (.getfield 7, 3) := by decide +kernel
theorem dX10_refusesPass_17 : decode cX10_refusesPass 17 = .ok (.bipush 6, 2) := by decide +kernel
theorem dX10_refusesPass_19 : decode cX10_refusesPass 19 = .ok (.iaload, 1) := by decide +kernel
theorem dX10_refusesPass_20 : decode cX10_refusesPass 20 = .ok (.iload_n 1, 1) := by decide +kernel
theorem dX10_refusesPass_21 : decode cX10_refusesPass 21 = .ok (.aload_n 0, 1) := by decide +kernel
theorem dX10_refusesPass_22 : decode cX10_refusesPass 22 = .ok (.getfield 7, 3) := by decide +kernel
theorem dX10_refusesPass_25 : decode cX10_refusesPass 25 = .ok (.iconst 2, 1) := by decide +kernel
theorem dX10_refusesPass_26 : decode cX10_refusesPass 26 = .ok (.iaload, 1) := by decide +kernel
theorem dX10_refusesPass_27 : decode cX10_refusesPass 27 = .ok (.imul, 1) := by decide +kernel
theorem dX10_refusesPass_28 : decode cX10_refusesPass 28 = .ok (.iadd, 1) := by decide +kernel
theorem dX10_refusesPass_29 : decode cX10_refusesPass 29 = .ok (.sipush 9999, 3) := by decide +kernel
theorem dX10_refusesPass_32 : decode cX10_refusesPass 32 = .ok (.if_icmp .le 8, 3) := by decide +kernel
theorem dX10_refusesPass_35 : decode cX10_refusesPass 35 = .ok (.bipush (-5), 2) := by decide +kernel
theorem dX10_refusesPass_37 : decode cX10_refusesPass 37 = .ok (.goto 4, 3) := by decide +kernel
theorem dX10_refusesPass_40 : decode cX10_refusesPass 40 = .ok (.iconst 0, 1) := by decide +kernel
theorem dX10_refusesPass_41 : decode cX10_refusesPass 41 = .ok (.ireturn, 1) := by decide +kernel
set_option maxRecDepth 20000 in
theorem ggX10_pass_X10_refusesPass : GoodIn wsX10_pass wsX10_refusesPass := goodIn_r _ [6, 7, 8, 9, 5, 10, 78, 79, 80, 81, 82, 83, 84, 85, 86, 87, 88, 89, 90, 91, 92] (by decide +kernel) (by decide +kernel)
set_option maxRecDepth 20000 in
theorem gX10_pass_X10_refusesPass : GoodIn wsX10_pass (wsV RX10 129 RX10 yX10_refusesPass wsX10_refusesPass) := goodIn_app (goodIn_of _ (by decide +kernel)) ggX10_pass_X10_refusesPass
set_option maxRecDepth 20000 in
theorem ggX10_pass_X10_records : GoodIn wsX10_pass wsX10_records := goodIn_r _ [14, 15, 16, 7, 78, 79, 80, 81, 82, 83, 84, 85, 86, 87, 88, 89, 90, 91, 92] (by decide +kernel) (by decide +kernel)
set_option maxRecDepth 20000 in
theorem gX10_pass_X10_records : GoodIn wsX10_pass (wsV RX10 109 RX10 yX10_records wsX10_records) := goodIn_app (goodIn_of _ (by decide +kernel)) ggX10_pass_X10_records
set_option maxRecDepth 20000 in
theorem ggX10_pass_X10_days : GoodIn wsX10_pass wsX10_days := goodIn_r _ [20, 7, 21, 22, 23, 5, 24, 25, 26, 27, 28, 29, 30, 31, 32, 33, 34, 35, 36, 37, 38, 39, 40, 41, 42, 43, 44, 45, 46, 47, 48, 49, 50, 51, 52, 53, 54, 55, 56, 57, 58, 59, 60, 61, 62, 63, 64, 65, 66, 67, 68, 69, 70, 71, 72, 73, 74, 75, 76, 77, 78, 79, 80, 81, 82, 83, 84, 85, 86, 87, 88, 89, 90, 91, 92] (by decide +kernel) (by decide +kernel)
set_option maxRecDepth 20000 in
theorem gX10_pass_X10_days : GoodIn wsX10_pass (wsV RX10 132 RX10 yX10_days wsX10_days) := goodIn_app (goodIn_of _ (by decide +kernel)) ggX10_pass_X10_days
theorem dX10_pass_0 : decode cX10_pass 0 = .ok (.aload_n 0, 1) := by decide +kernel
theorem dX10_pass_1 : decode cX10_pass 1 = .ok (.iconst 0, 1) := by decide +kernel
theorem dX10_pass_2 : decode cX10_pass 2 = .ok (.putfield 32, 3) := by decide +kernel
theorem dX10_pass_5 : decode cX10_pass 5 = .ok (.aload_n 0, 1) := by decide +kernel
theorem dX10_pass_6 : decode cX10_pass 6 = .ok (.iload_n 1, 1) := by decide +kernel
theorem dX10_pass_7 : decode cX10_pass 7 = .ok (.invokevirtual 129, 3) := by decide +kernel
theorem dX10_pass_10 : decode cX10_pass 10 = .ok (.istore_n 2, 1) := by decide +kernel
theorem dX10_pass_11 : decode cX10_pass 11 = .ok (.iload_n 2, 1) := by decide +kernel
theorem dX10_pass_12 : decode cX10_pass 12 = .ok (.ifCond .eq 5, 3) := by decide +kernel
theorem dX10_pass_15 : decode cX10_pass 15 = .ok (.iload_n 2, 1) := by decide +kernel
theorem dX10_pass_16 : decode cX10_pass 16 = .ok (.ireturn, 1) := by decide +kernel
theorem dX10_pass_17 : decode cX10_pass 17 = .ok (.aload_n 0, 1) := by decide +kernel
theorem dX10_pass_18 : decode cX10_pass 18 = .ok (.invokevirtual 109, 3) := by decide +kernel
theorem dX10_pass_21 : decode cX10_pass 21 = .ok (.aload_n 0, 1) := by decide +kernel
theorem dX10_pass_22 : decode cX10_pass 22 = .ok (.iload_n 1, 1) := by decide +kernel
theorem dX10_pass_23 : decode cX10_pass 23 = .ok (.invokevirtual 132, 3) := by decide +kernel
theorem dX10_pass_26 : decode cX10_pass 26 = .ok (.ireturn, 1) := by decide +kernel
set_option maxRecDepth 20000 in
theorem ggX10_onWayFrom_X10_truckOf : GoodIn wsX10_onWayFrom wsX10_truckOf := goodIn_r _ [6, 1, 7, 8, 9, 10, 11, 12, 13, 14, 15, 16, 17, 18, 19, 20, 21] (by decide +kernel) (by decide +kernel)
set_option maxRecDepth 20000 in
theorem gX10_onWayFrom_X10_truckOf : GoodIn wsX10_onWayFrom (wsV RX10 96 RX10 yX10_truckOf wsX10_truckOf) := goodIn_app (goodIn_of _ (by decide +kernel)) ggX10_onWayFrom_X10_truckOf
theorem dX10_onWayFrom_0 : decode cX10_onWayFrom 0 = .ok (.iconst 0, 1) := by decide +kernel
theorem dX10_onWayFrom_1 : decode cX10_onWayFrom 1 = .ok (.istore_n 2, 1) := by decide +kernel
theorem dX10_onWayFrom_2 : decode cX10_onWayFrom 2 = .ok (.iconst 0, 1) := by decide +kernel
theorem dX10_onWayFrom_3 : decode cX10_onWayFrom 3 = .ok (.istore_n 3, 1) := by decide +kernel
theorem dX10_onWayFrom_4 : decode cX10_onWayFrom 4 = .ok (.iload_n 3, 1) := by decide +kernel
theorem dX10_onWayFrom_5 : decode cX10_onWayFrom 5 = .ok (.aload_n 0, 1) := by decide +kernel
theorem dX10_onWayFrom_6 : decode cX10_onWayFrom 6 = .ok (.getfield 7, 3) := by decide +kernel
theorem dX10_onWayFrom_9 : decode cX10_onWayFrom 9 = .ok (.iconst 0, 1) := by decide +kernel
theorem dX10_onWayFrom_10 : decode cX10_onWayFrom 10 = .ok (.iaload, 1) := by decide +kernel
theorem dX10_onWayFrom_11 : decode cX10_onWayFrom 11 = .ok (.if_icmp .ge 29, 3) := by decide +kernel
theorem dX10_onWayFrom_14 : decode cX10_onWayFrom 14 = .ok (.iload_n 2, 1) := by decide +kernel
theorem dX10_onWayFrom_15 : decode cX10_onWayFrom 15 = .ok (.aload_n 0, 1) := by decide +kernel
theorem dX10_onWayFrom_16 : decode cX10_onWayFrom 16 = .ok (.iload_n 3, 1) := by decide +kernel
theorem dX10_onWayFrom_17 : decode cX10_onWayFrom 17 = .ok (.iconst 0, 1) := by decide +kernel
theorem dX10_onWayFrom_18 : decode cX10_onWayFrom 18 = .ok (.invokevirtual 96, 3) := by decide +kernel
theorem dX10_onWayFrom_21 : decode cX10_onWayFrom 21 = .ok (.iload_n 1, 1) := by decide +kernel
theorem dX10_onWayFrom_22 : decode cX10_onWayFrom 22 = .ok (.iconst 1, 1) := by decide +kernel
theorem dX10_onWayFrom_23 : decode cX10_onWayFrom 23 = .ok (.iadd, 1) := by decide +kernel
theorem dX10_onWayFrom_24 : decode cX10_onWayFrom 24 = .ok (.if_icmp .ne 7, 3) := by decide +kernel
theorem dX10_onWayFrom_27 : decode cX10_onWayFrom 27 = .ok (.iconst 1, 1) := by decide +kernel
theorem dX10_onWayFrom_28 : decode cX10_onWayFrom 28 = .ok (.goto 4, 3) := by decide +kernel
theorem dX10_onWayFrom_31 : decode cX10_onWayFrom 31 = .ok (.iconst 0, 1) := by decide +kernel
theorem dX10_onWayFrom_32 : decode cX10_onWayFrom 32 = .ok (.iadd, 1) := by decide +kernel
theorem dX10_onWayFrom_33 : decode cX10_onWayFrom 33 = .ok (.istore_n 2, 1) := by decide +kernel
theorem dX10_onWayFrom_34 : decode cX10_onWayFrom 34 = .ok (.iinc 3 1, 3) := by decide +kernel
theorem dX10_onWayFrom_37 : decode cX10_onWayFrom 37 = .ok (.goto (-33), 3) := by decide +kernel
theorem dX10_onWayFrom_40 : decode cX10_onWayFrom 40 = .ok (.iload_n 2, 1) := by decide +kernel
theorem dX10_onWayFrom_41 : decode cX10_onWayFrom 41 = .ok (.ireturn, 1) := by decide +kernel
set_option maxRecDepth 20000 in
theorem ggX10_ofFace_X10_in : GoodIn wsX10_ofFace wsX10_in := goodIn_r _ [6] (by decide +kernel) (by decide +kernel)
set_option maxRecDepth 20000 in
theorem gX10_ofFace_X10_in : GoodIn wsX10_ofFace (va_wsS RX10 92 yX10_in wsX10_in) := goodIn_app (goodIn_of _ (by decide +kernel)) ggX10_ofFace_X10_in
set_option maxRecDepth 20000 in
theorem ggX10_ofFace_X10_faceOf : GoodIn wsX10_ofFace wsX10_faceOf := goodIn_r _ [10, 2, 19, 20, 21, 22, 23, 24, 25, 26, 27, 28, 29, 30, 31, 32, 33] (by decide +kernel) (by decide +kernel)
set_option maxRecDepth 20000 in
theorem gX10_ofFace_X10_faceOf : GoodIn wsX10_ofFace (wsV RX10 63 RX10 yX10_faceOf wsX10_faceOf) := goodIn_app (goodIn_of _ (by decide +kernel)) ggX10_ofFace_X10_faceOf
set_option maxRecDepth 20000 in
theorem ggX10_ofFace_X10_onWayFrom : GoodIn wsX10_ofFace wsX10_onWayFrom := goodIn_r _ [14, 2, 15, 16, 17, 5, 18, 19, 20, 21, 22, 23, 24, 25, 26, 27, 28, 29, 30, 31, 32, 33] (by decide +kernel) (by decide +kernel)
set_option maxRecDepth 20000 in
theorem gX10_ofFace_X10_onWayFrom : GoodIn wsX10_ofFace (wsV RX10 135 RX10 yX10_onWayFrom wsX10_onWayFrom) := goodIn_app (goodIn_of _ (by decide +kernel)) ggX10_ofFace_X10_onWayFrom
theorem dX10_ofFace_0 : decode cX10_ofFace 0 = .ok (.aload_n 0, 1) := by decide +kernel
theorem dX10_ofFace_1 : decode cX10_ofFace 1 = .ok (.iconst 0, 1) := by decide +kernel
theorem dX10_ofFace_2 : decode cX10_ofFace 2 = .ok (.putfield 32, 3) := by decide +kernel
theorem dX10_ofFace_5 : decode cX10_ofFace 5 = .ok (.iload_n 1, 1) := by decide +kernel
theorem dX10_ofFace_6 : decode cX10_ofFace 6 = .ok (.iconst 0, 1) := by decide +kernel
theorem dX10_ofFace_7 : decode cX10_ofFace 7 = .ok (.aload_n 0, 1) := by decide +kernel
theorem dX10_ofFace_8 : decode cX10_ofFace 8 = .ok (.getfield 7, 3) := by decide +kernel
theorem dX10_ofFace_11 : decode cX10_ofFace 11 = .ok (.bipush 7, 2) := by decide +kernel
theorem dX10_ofFace_13 : decode cX10_ofFace 13 = .ok (.iaload, 1) := by decide +kernel
theorem dX10_ofFace_14 : decode cX10_ofFace 14 = .ok (.iconst 1, 1) := by decide +kernel
theorem dX10_ofFace_15 : decode cX10_ofFace 15 = .ok (.isub, 1) := by decide +kernel
theorem dX10_ofFace_16 : decode cX10_ofFace 16 = .ok (.invokestatic 92, 3) := by decide +kernel
theorem dX10_ofFace_19 : decode cX10_ofFace 19 = .ok (.ifCond .ne 5, 3) := by decide +kernel
theorem dX10_ofFace_22 : decode cX10_ofFace 22 = .ok (.iconst (-1), 1) := by decide +kernel
theorem dX10_ofFace_23 : decode cX10_ofFace 23 = .ok (.ireturn, 1) := by decide +kernel
theorem dX10_ofFace_24 : decode cX10_ofFace 24 = .ok (.iload_n 2, 1) := by decide +kernel
theorem dX10_ofFace_25 : decode cX10_ofFace 25 = .ok (.tableswitch 69 0 4 #[35, 42, 49, 56, 62], 35) := by decide +kernel
theorem dX10_ofFace_60 : decode cX10_ofFace 60 = .ok (.aload_n 0, 1) := by decide +kernel
theorem dX10_ofFace_61 : decode cX10_ofFace 61 = .ok (.iload_n 1, 1) := by decide +kernel
theorem dX10_ofFace_62 : decode cX10_ofFace 62 = .ok (.iconst 0, 1) := by decide +kernel
theorem dX10_ofFace_63 : decode cX10_ofFace 63 = .ok (.invokevirtual 63, 3) := by decide +kernel
theorem dX10_ofFace_66 : decode cX10_ofFace 66 = .ok (.ireturn, 1) := by decide +kernel
theorem dX10_ofFace_67 : decode cX10_ofFace 67 = .ok (.aload_n 0, 1) := by decide +kernel
theorem dX10_ofFace_68 : decode cX10_ofFace 68 = .ok (.iload_n 1, 1) := by decide +kernel
theorem dX10_ofFace_69 : decode cX10_ofFace 69 = .ok (.iconst 1, 1) := by decide +kernel
theorem dX10_ofFace_70 : decode cX10_ofFace 70 = .ok (.invokevirtual 63, 3) := by decide +kernel
theorem dX10_ofFace_73 : decode cX10_ofFace 73 = .ok (.ireturn, 1) := by decide +kernel
theorem dX10_ofFace_74 : decode cX10_ofFace 74 = .ok (.aload_n 0, 1) := by decide +kernel
theorem dX10_ofFace_75 : decode cX10_ofFace 75 = .ok (.iload_n 1, 1) := by decide +kernel
theorem dX10_ofFace_76 : decode cX10_ofFace 76 = .ok (.iconst 2, 1) := by decide +kernel
theorem dX10_ofFace_77 : decode cX10_ofFace 77 = .ok (.invokevirtual 63, 3) := by decide +kernel
theorem dX10_ofFace_80 : decode cX10_ofFace 80 = .ok (.ireturn, 1) := by decide +kernel
theorem dX10_ofFace_81 : decode cX10_ofFace 81 = .ok (.aload_n 0, 1) := by decide +kernel
theorem dX10_ofFace_82 : decode cX10_ofFace 82 = .ok (.iload_n 1, 1) := by decide +kernel
theorem dX10_ofFace_83 : decode cX10_ofFace 83 = .ok (.invokevirtual 135, 3) := by decide +kernel
theorem dX10_ofFace_86 : decode cX10_ofFace 86 = .ok (.ireturn, 1) := by decide +kernel
theorem dX10_ofFace_87 : decode cX10_ofFace 87 = .ok (.aload_n 0, 1) := by decide +kernel
theorem dX10_ofFace_88 : decode cX10_ofFace 88 = .ok (.iload_n 1, 1) := by decide +kernel
theorem dX10_ofFace_89 : decode cX10_ofFace 89 = .ok (.iconst 3, 1) := by decide +kernel
theorem dX10_ofFace_90 : decode cX10_ofFace 90 = .ok (.invokevirtual 63, 3) := by decide +kernel
theorem dX10_ofFace_93 : decode cX10_ofFace 93 = .ok (.ireturn, 1) := by decide +kernel
theorem dX10_ofFace_94 : decode cX10_ofFace 94 = .ok (.bipush (-2), 2) := by decide +kernel
theorem dX10_ofFace_96 : decode cX10_ofFace 96 = .ok (.ireturn, 1) := by decide +kernel
set_option maxRecDepth 20000 in
theorem ggX10_truck_X10_in : GoodIn wsX10_truck wsX10_in := goodIn_r _ [6] (by decide +kernel) (by decide +kernel)
set_option maxRecDepth 20000 in
theorem gX10_truck_X10_in : GoodIn wsX10_truck (va_wsS RX10 92 yX10_in wsX10_in) := goodIn_app (goodIn_of _ (by decide +kernel)) ggX10_truck_X10_in
set_option maxRecDepth 20000 in
theorem ggX10_truck_X10_truckOf : GoodIn wsX10_truck wsX10_truckOf := goodIn_r _ [10, 2, 11, 12, 13, 14, 15, 16, 17, 18, 19, 20, 21, 22, 23, 24, 25] (by decide +kernel) (by decide +kernel)
set_option maxRecDepth 20000 in
theorem gX10_truck_X10_truckOf : GoodIn wsX10_truck (wsV RX10 96 RX10 yX10_truckOf wsX10_truckOf) := goodIn_app (goodIn_of _ (by decide +kernel)) ggX10_truck_X10_truckOf
theorem dX10_truck_0 : decode cX10_truck 0 = .ok (.aload_n 0, 1) := by decide +kernel
theorem dX10_truck_1 : decode cX10_truck 1 = .ok (.iconst 0, 1) := by decide +kernel
theorem dX10_truck_2 : decode cX10_truck 2 = .ok (.putfield 32, 3) := by decide +kernel
theorem dX10_truck_5 : decode cX10_truck 5 = .ok (.iload_n 1, 1) := by decide +kernel
theorem dX10_truck_6 : decode cX10_truck 6 = .ok (.iconst 0, 1) := by decide +kernel
theorem dX10_truck_7 : decode cX10_truck 7 = .ok (.aload_n 0, 1) := by decide +kernel
theorem dX10_truck_8 : decode cX10_truck 8 = .ok (.getfield 7, 3) := by decide +kernel
theorem dX10_truck_11 : decode cX10_truck 11 = .ok (.iconst 0, 1) := by decide +kernel
theorem dX10_truck_12 : decode cX10_truck 12 = .ok (.iaload, 1) := by decide +kernel
theorem dX10_truck_13 : decode cX10_truck 13 = .ok (.iconst 1, 1) := by decide +kernel
theorem dX10_truck_14 : decode cX10_truck 14 = .ok (.isub, 1) := by decide +kernel
theorem dX10_truck_15 : decode cX10_truck 15 = .ok (.invokestatic 92, 3) := by decide +kernel
theorem dX10_truck_18 : decode cX10_truck 18 = .ok (.ifCond .ne 5, 3) := by decide +kernel
theorem dX10_truck_21 : decode cX10_truck 21 = .ok (.iconst (-1), 1) := by decide +kernel
theorem dX10_truck_22 : decode cX10_truck 22 = .ok (.ireturn, 1) := by decide +kernel
theorem dX10_truck_23 : decode cX10_truck 23 = .ok (.iload_n 2, 1) := by decide +kernel
theorem dX10_truck_24 : decode cX10_truck 24 = .ok (.iconst 0, 1) := by decide +kernel
theorem dX10_truck_25 : decode cX10_truck 25 = .ok (.iconst 3, 1) := by decide +kernel
theorem dX10_truck_26 : decode cX10_truck 26 = .ok (.invokestatic 92, 3) := by decide +kernel
theorem dX10_truck_29 : decode cX10_truck 29 = .ok (.ifCond .ne 6, 3) := by decide +kernel
theorem dX10_truck_32 : decode cX10_truck 32 = .ok (.bipush (-2), 2) := by decide +kernel
theorem dX10_truck_34 : decode cX10_truck 34 = .ok (.ireturn, 1) := by decide +kernel
theorem dX10_truck_35 : decode cX10_truck 35 = .ok (.iload_n 2, 1) := by decide +kernel
theorem dX10_truck_36 : decode cX10_truck 36 = .ok (.iconst 3, 1) := by decide +kernel
theorem dX10_truck_37 : decode cX10_truck 37 = .ok (.if_icmp .ge 15, 3) := by decide +kernel
theorem dX10_truck_40 : decode cX10_truck 40 = .ok (.aload_n 0, 1) := by decide +kernel
theorem dX10_truck_41 : decode cX10_truck 41 = .ok (.iload_n 1, 1) := by decide +kernel
theorem dX10_truck_42 : decode cX10_truck 42 = .ok (.iconst 0, 1) := by decide +kernel
theorem dX10_truck_43 : decode cX10_truck 43 = .ok (.invokevirtual 96, 3) := by decide +kernel
theorem dX10_truck_46 : decode cX10_truck 46 = .ok (.ifCond .ne 6, 3) := by decide +kernel
theorem dX10_truck_49 : decode cX10_truck 49 = .ok (.bipush (-6), 2) := by decide +kernel
theorem dX10_truck_51 : decode cX10_truck 51 = .ok (.ireturn, 1) := by decide +kernel
theorem dX10_truck_52 : decode cX10_truck 52 = .ok (.iload_n 2, 1) := by decide +kernel
theorem dX10_truck_53 : decode cX10_truck 53 = .ok (.ifCond .ne 14, 3) := by decide +kernel
theorem dX10_truck_56 : decode cX10_truck 56 = .ok (.aload_n 0, 1) := by decide +kernel
theorem dX10_truck_57 : decode cX10_truck 57 = .ok (.iload_n 1, 1) := by decide +kernel
theorem dX10_truck_58 : decode cX10_truck 58 = .ok (.iconst 0, 1) := by decide +kernel
theorem dX10_truck_59 : decode cX10_truck 59 = .ok (.invokevirtual 96, 3) := by decide +kernel
theorem dX10_truck_62 : decode cX10_truck 62 = .ok (.iconst 1, 1) := by decide +kernel
theorem dX10_truck_63 : decode cX10_truck 63 = .ok (.isub, 1) := by decide +kernel
theorem dX10_truck_64 : decode cX10_truck 64 = .ok (.goto 9, 3) := by decide +kernel
theorem dX10_truck_67 : decode cX10_truck 67 = .ok (.aload_n 0, 1) := by decide +kernel
theorem dX10_truck_68 : decode cX10_truck 68 = .ok (.iload_n 1, 1) := by decide +kernel
theorem dX10_truck_69 : decode cX10_truck 69 = .ok (.iload_n 2, 1) := by decide +kernel
theorem dX10_truck_70 : decode cX10_truck 70 = .ok (.invokevirtual 96, 3) := by decide +kernel
theorem dX10_truck_73 : decode cX10_truck 73 = .ok (.ireturn, 1) := by decide +kernel
set_option maxRecDepth 20000 in
theorem ggX10_ofContract_X10_isContract : GoodIn wsX10_ofContract wsX10_isContract := goodIn_r _ [8, 9, 10, 11, 7, 12, 32, 33, 34, 35, 36, 37, 38, 39, 40, 41, 42, 43, 44, 45, 46] (by decide +kernel) (by decide +kernel)
set_option maxRecDepth 20000 in
theorem gX10_ofContract_X10_isContract : GoodIn wsX10_ofContract (wsV RX10 126 RX10 yX10_isContract wsX10_isContract) := goodIn_app (goodIn_of _ (by decide +kernel)) ggX10_ofContract_X10_isContract
set_option maxRecDepth 20000 in
theorem ggX10_ofContract_X10_in : GoodIn wsX10_ofContract wsX10_in := goodIn_r _ [12] (by decide +kernel) (by decide +kernel)
set_option maxRecDepth 20000 in
theorem gX10_ofContract_X10_in : GoodIn wsX10_ofContract (va_wsS RX10 92 yX10_in wsX10_in) := goodIn_app (goodIn_of _ (by decide +kernel)) ggX10_ofContract_X10_in
set_option maxRecDepth 20000 in
theorem ggX10_ofContract_X10_asks : GoodIn wsX10_ofContract wsX10_asks := goodIn_r _ [16, 9, 32, 33, 34, 35, 36, 37, 38, 39, 40, 41, 42, 43, 44, 45, 46] (by decide +kernel) (by decide +kernel)
set_option maxRecDepth 20000 in
theorem gX10_ofContract_X10_asks : GoodIn wsX10_ofContract (wsV RX10 39 RX10 yX10_asks wsX10_asks) := goodIn_app (goodIn_of _ (by decide +kernel)) ggX10_ofContract_X10_asks
set_option maxRecDepth 20000 in
theorem ggX10_ofContract_X10_reason : GoodIn wsX10_ofContract wsX10_reason := goodIn_r _ [20, 9, 13, 14, 15, 7, 16, 21, 22, 23, 24, 25, 26, 27, 28, 29, 30, 31, 2, 3, 32, 33, 34, 35, 36, 37, 38, 39, 40, 41, 42, 43, 44, 45, 46] (by decide +kernel) (by decide +kernel)
set_option maxRecDepth 20000 in
theorem gX10_ofContract_X10_reason : GoodIn wsX10_ofContract (wsV RX10 85 RX10 yX10_reason wsX10_reason) := goodIn_app (goodIn_of _ (by decide +kernel)) ggX10_ofContract_X10_reason
theorem dX10_ofContract_0 : decode cX10_ofContract 0 = .ok (.aload_n 0, 1) := by decide +kernel
theorem dX10_ofContract_1 : decode cX10_ofContract 1 = .ok (.iconst 0, 1) := by decide +kernel
theorem dX10_ofContract_2 : decode cX10_ofContract 2 = .ok (.putfield 32, 3) := by decide +kernel
theorem dX10_ofContract_5 : decode cX10_ofContract 5 = .ok (.aload_n 0, 1) := by decide +kernel
theorem dX10_ofContract_6 : decode cX10_ofContract 6 = .ok (.iload_n 1, 1) := by decide +kernel
theorem dX10_ofContract_7 : decode cX10_ofContract 7 = .ok (.invokevirtual 126, 3) := by decide +kernel
theorem dX10_ofContract_10 : decode cX10_ofContract 10 = .ok (.ifCond .ne 5, 3) := by decide +kernel
theorem dX10_ofContract_13 : decode cX10_ofContract 13 = .ok (.iconst (-1), 1) := by decide +kernel
theorem dX10_ofContract_14 : decode cX10_ofContract 14 = .ok (.ireturn, 1) := by decide +kernel
theorem dX10_ofContract_15 : decode cX10_ofContract 15 = .ok (.iload_n 2, 1) := by decide +kernel
theorem dX10_ofContract_16 : decode cX10_ofContract 16 = .ok (.iconst 0, 1) := by decide +kernel
theorem dX10_ofContract_17 : decode cX10_ofContract 17 = .ok (.bipush 8, 2) := by decide +kernel
theorem dX10_ofContract_19 : decode cX10_ofContract 19 = .ok (.invokestatic 92, 3) := by decide +kernel
theorem dX10_ofContract_22 : decode cX10_ofContract 22 = .ok (.ifCond .ne 6, 3) := by decide +kernel
theorem dX10_ofContract_25 : decode cX10_ofContract 25 = .ok (.bipush (-2), 2) := by decide +kernel
theorem dX10_ofContract_27 : decode cX10_ofContract 27 = .ok (.ireturn, 1) := by decide +kernel
theorem dX10_ofContract_28 : decode cX10_ofContract 28 = .ok (.iload_n 2, 1) := by decide +kernel
theorem dX10_ofContract_29 : decode cX10_ofContract 29 = .ok (.bipush 6, 2) := by decide +kernel
theorem dX10_ofContract_31 : decode cX10_ofContract 31 = .ok (.if_icmp .ge 10, 3) := by decide +kernel
theorem dX10_ofContract_34 : decode cX10_ofContract 34 = .ok (.aload_n 0, 1) := by decide +kernel
theorem dX10_ofContract_35 : decode cX10_ofContract 35 = .ok (.iload_n 1, 1) := by decide +kernel
theorem dX10_ofContract_36 : decode cX10_ofContract 36 = .ok (.iload_n 2, 1) := by decide +kernel
theorem dX10_ofContract_37 : decode cX10_ofContract 37 = .ok (.invokevirtual 39, 3) := by decide +kernel
theorem dX10_ofContract_40 : decode cX10_ofContract 40 = .ok (.ireturn, 1) := by decide +kernel
theorem dX10_ofContract_41 : decode cX10_ofContract 41 = .ok (.aload_n 0, 1) := by decide +kernel
theorem dX10_ofContract_42 : decode cX10_ofContract 42 = .ok (.iload_n 1, 1) := by decide +kernel
theorem dX10_ofContract_43 : decode cX10_ofContract 43 = .ok (.invokevirtual 85, 3) := by decide +kernel
theorem dX10_ofContract_46 : decode cX10_ofContract 46 = .ok (.istore_n 3, 1) := by decide +kernel
theorem dX10_ofContract_47 : decode cX10_ofContract 47 = .ok (.iload_n 2, 1) := by decide +kernel
theorem dX10_ofContract_48 : decode cX10_ofContract 48 = .ok (.bipush 6, 2) := by decide +kernel
theorem dX10_ofContract_50 : decode cX10_ofContract 50 = .ok (.if_icmp .ne 7, 3) := by decide +kernel
theorem dX10_ofContract_53 : decode cX10_ofContract 53 = .ok (.iload_n 3, 1) := by decide +kernel
theorem dX10_ofContract_54 : decode cX10_ofContract 54 = .ok (.goto 29, 3) := by decide +kernel
theorem dX10_ofContract_57 : decode cX10_ofContract 57 = .ok (.iload_n 3, 1) := by decide +kernel
theorem dX10_ofContract_58 : decode cX10_ofContract 58 = .ok (.ifCond .eq 8, 3) := by decide +kernel
theorem dX10_ofContract_61 : decode cX10_ofContract 61 = .ok (.bipush (-6), 2) := by decide +kernel
theorem dX10_ofContract_63 : decode cX10_ofContract 63 = .ok (.goto 20, 3) := by decide +kernel
theorem dX10_ofContract_66 : decode cX10_ofContract 66 = .ok (.iload_n 2, 1) := by decide +kernel
theorem dX10_ofContract_67 : decode cX10_ofContract 67 = .ok (.bipush 7, 2) := by decide +kernel
theorem dX10_ofContract_69 : decode cX10_ofContract 69 = .ok (.if_icmp .ne 10, 3) := by decide +kernel
theorem dX10_ofContract_72 : decode cX10_ofContract 72 = .ok (.aload_n 0, 1) := by decide +kernel
theorem dX10_ofContract_73 : decode cX10_ofContract 73 = .ok (.getfield 46, 3) := by decide +kernel
theorem dX10_ofContract_76 : decode cX10_ofContract 76 = .ok (.goto 7, 3) := by decide +kernel
theorem dX10_ofContract_79 : decode cX10_ofContract 79 = .ok (.aload_n 0, 1) := by decide +kernel
theorem dX10_ofContract_80 : decode cX10_ofContract 80 = .ok (.getfield 49, 3) := by decide +kernel
theorem dX10_ofContract_83 : decode cX10_ofContract 83 = .ok (.ireturn, 1) := by decide +kernel
set_option maxRecDepth 20000 in
theorem ggX10_bin_X10_in : GoodIn wsX10_bin wsX10_in := goodIn_r _ [6] (by decide +kernel) (by decide +kernel)
set_option maxRecDepth 20000 in
theorem gX10_bin_X10_in : GoodIn wsX10_bin (va_wsS RX10 92 yX10_in wsX10_in) := goodIn_app (goodIn_of _ (by decide +kernel)) ggX10_bin_X10_in
theorem dX10_bin_0 : decode cX10_bin 0 = .ok (.aload_n 0, 1) := by decide +kernel
theorem dX10_bin_1 : decode cX10_bin 1 = .ok (.iconst 0, 1) := by decide +kernel
theorem dX10_bin_2 : decode cX10_bin 2 = .ok (.putfield 32, 3) := by decide +kernel
theorem dX10_bin_5 : decode cX10_bin 5 = .ok (.iload_n 1, 1) := by decide +kernel
theorem dX10_bin_6 : decode cX10_bin 6 = .ok (.iconst 0, 1) := by decide +kernel
theorem dX10_bin_7 : decode cX10_bin 7 = .ok (.iconst 2, 1) := by decide +kernel
theorem dX10_bin_8 : decode cX10_bin 8 = .ok (.invokestatic 92, 3) := by decide +kernel
theorem dX10_bin_11 : decode cX10_bin 11 = .ok (.ifCond .eq 15, 3) := by decide +kernel
theorem dX10_bin_14 : decode cX10_bin 14 = .ok (.aload_n 0, 1) := by decide +kernel
theorem dX10_bin_15 : decode cX10_bin 15 = .ok (.getfield 7, 3) := by decide +kernel
theorem dX10_bin_18 : decode cX10_bin 18 = .ok (.bipush 14, 2) := by decide +kernel
theorem dX10_bin_20 : decode cX10_bin 20 = .ok (.iload_n 1, 1) := by decide +kernel
theorem dX10_bin_21 : decode cX10_bin 21 = .ok (.iadd, 1) := by decide +kernel
theorem dX10_bin_22 : decode cX10_bin 22 = .ok (.iaload, 1) := by decide +kernel
theorem dX10_bin_23 : decode cX10_bin 23 = .ok (.goto 4, 3) := by decide +kernel
theorem dX10_bin_26 : decode cX10_bin 26 = .ok (.iconst (-1), 1) := by decide +kernel
theorem dX10_bin_27 : decode cX10_bin 27 = .ok (.ireturn, 1) := by decide +kernel
set_option maxRecDepth 20000 in
theorem ggX10_waiting_X10_in : GoodIn wsX10_waiting wsX10_in := goodIn_r _ [6] (by decide +kernel) (by decide +kernel)
set_option maxRecDepth 20000 in
theorem gX10_waiting_X10_in : GoodIn wsX10_waiting (va_wsS RX10 92 yX10_in wsX10_in) := goodIn_app (goodIn_of _ (by decide +kernel)) ggX10_waiting_X10_in
theorem dX10_waiting_0 : decode cX10_waiting 0 = .ok (.aload_n 0, 1) := by decide +kernel
theorem dX10_waiting_1 : decode cX10_waiting 1 = .ok (.iconst 0, 1) := by decide +kernel
theorem dX10_waiting_2 : decode cX10_waiting 2 = .ok (.putfield 32, 3) := by decide +kernel
theorem dX10_waiting_5 : decode cX10_waiting 5 = .ok (.iload_n 1, 1) := by decide +kernel
theorem dX10_waiting_6 : decode cX10_waiting 6 = .ok (.iconst 1, 1) := by decide +kernel
theorem dX10_waiting_7 : decode cX10_waiting 7 = .ok (.bipush 9, 2) := by decide +kernel
theorem dX10_waiting_9 : decode cX10_waiting 9 = .ok (.invokestatic 92, 3) := by decide +kernel
theorem dX10_waiting_12 : decode cX10_waiting 12 = .ok (.ifCond .eq 15, 3) := by decide +kernel
theorem dX10_waiting_15 : decode cX10_waiting 15 = .ok (.aload_n 0, 1) := by decide +kernel
theorem dX10_waiting_16 : decode cX10_waiting 16 = .ok (.getfield 7, 3) := by decide +kernel
theorem dX10_waiting_19 : decode cX10_waiting 19 = .ok (.bipush 16, 2) := by decide +kernel
theorem dX10_waiting_21 : decode cX10_waiting 21 = .ok (.iload_n 1, 1) := by decide +kernel
theorem dX10_waiting_22 : decode cX10_waiting 22 = .ok (.iadd, 1) := by decide +kernel
theorem dX10_waiting_23 : decode cX10_waiting 23 = .ok (.iaload, 1) := by decide +kernel
theorem dX10_waiting_24 : decode cX10_waiting 24 = .ok (.goto 4, 3) := by decide +kernel
theorem dX10_waiting_27 : decode cX10_waiting 27 = .ok (.iconst (-1), 1) := by decide +kernel
theorem dX10_waiting_28 : decode cX10_waiting 28 = .ok (.ireturn, 1) := by decide +kernel
set_option maxRecDepth 20000 in
theorem ggX10_onWay_X10_truckOf : GoodIn wsX10_onWay wsX10_truckOf := goodIn_r _ [6, 1, 7, 8, 9, 10, 11, 12, 13, 14, 15, 16, 17, 18, 19, 20, 21] (by decide +kernel) (by decide +kernel)
set_option maxRecDepth 20000 in
theorem gX10_onWay_X10_truckOf : GoodIn wsX10_onWay (wsV RX10 96 RX10 yX10_truckOf wsX10_truckOf) := goodIn_app (goodIn_of _ (by decide +kernel)) ggX10_onWay_X10_truckOf
theorem dX10_onWay_0 : decode cX10_onWay 0 = .ok (.iconst 0, 1) := by decide +kernel
theorem dX10_onWay_1 : decode cX10_onWay 1 = .ok (.istore_n 1, 1) := by decide +kernel
theorem dX10_onWay_2 : decode cX10_onWay 2 = .ok (.iconst 0, 1) := by decide +kernel
theorem dX10_onWay_3 : decode cX10_onWay 3 = .ok (.istore_n 2, 1) := by decide +kernel
theorem dX10_onWay_4 : decode cX10_onWay 4 = .ok (.iload_n 2, 1) := by decide +kernel
theorem dX10_onWay_5 : decode cX10_onWay 5 = .ok (.aload_n 0, 1) := by decide +kernel
theorem dX10_onWay_6 : decode cX10_onWay 6 = .ok (.getfield 7, 3) := by decide +kernel
theorem dX10_onWay_9 : decode cX10_onWay 9 = .ok (.iconst 0, 1) := by decide +kernel
theorem dX10_onWay_10 : decode cX10_onWay 10 = .ok (.iaload, 1) := by decide +kernel
theorem dX10_onWay_11 : decode cX10_onWay 11 = .ok (.if_icmp .ge 26, 3) := by decide +kernel
theorem dX10_onWay_14 : decode cX10_onWay 14 = .ok (.iload_n 1, 1) := by decide +kernel
theorem dX10_onWay_15 : decode cX10_onWay 15 = .ok (.aload_n 0, 1) := by decide +kernel
theorem dX10_onWay_16 : decode cX10_onWay 16 = .ok (.iload_n 2, 1) := by decide +kernel
theorem dX10_onWay_17 : decode cX10_onWay 17 = .ok (.iconst 0, 1) := by decide +kernel
theorem dX10_onWay_18 : decode cX10_onWay 18 = .ok (.invokevirtual 96, 3) := by decide +kernel
theorem dX10_onWay_21 : decode cX10_onWay 21 = .ok (.ifCond .le 7, 3) := by decide +kernel
theorem dX10_onWay_24 : decode cX10_onWay 24 = .ok (.iconst 1, 1) := by decide +kernel
theorem dX10_onWay_25 : decode cX10_onWay 25 = .ok (.goto 4, 3) := by decide +kernel
theorem dX10_onWay_28 : decode cX10_onWay 28 = .ok (.iconst 0, 1) := by decide +kernel
theorem dX10_onWay_29 : decode cX10_onWay 29 = .ok (.iadd, 1) := by decide +kernel
theorem dX10_onWay_30 : decode cX10_onWay 30 = .ok (.istore_n 1, 1) := by decide +kernel
theorem dX10_onWay_31 : decode cX10_onWay 31 = .ok (.iinc 2 1, 3) := by decide +kernel
theorem dX10_onWay_34 : decode cX10_onWay 34 = .ok (.goto (-30), 3) := by decide +kernel
theorem dX10_onWay_37 : decode cX10_onWay 37 = .ok (.iload_n 1, 1) := by decide +kernel
theorem dX10_onWay_38 : decode cX10_onWay 38 = .ok (.ireturn, 1) := by decide +kernel
set_option maxRecDepth 20000 in
theorem ggX10_count_X10_onWay : GoodIn wsX10_count wsX10_onWay := goodIn_r _ [9, 2, 10, 11, 12, 8, 13, 25, 26, 27, 28, 29, 30, 31, 32, 33, 34, 35, 36, 37, 38, 39] (by decide +kernel) (by decide +kernel)
set_option maxRecDepth 20000 in
theorem gX10_count_X10_onWay : GoodIn wsX10_count (wsV RX10 138 RX10 yX10_onWay wsX10_onWay) := goodIn_app (goodIn_of _ (by decide +kernel)) ggX10_count_X10_onWay
set_option maxRecDepth 20000 in
theorem ggX10_count_X10_inFront : GoodIn wsX10_count wsX10_inFront := goodIn_r _ [17, 2, 25, 26, 27, 28, 29, 30, 31, 32, 33, 34, 35, 36, 37, 38, 39] (by decide +kernel) (by decide +kernel)
set_option maxRecDepth 20000 in
theorem gX10_count_X10_inFront : GoodIn wsX10_count (wsV RX10 141 RX10 yX10_inFront wsX10_inFront) := goodIn_app (goodIn_of _ (by decide +kernel)) ggX10_count_X10_inFront
set_option maxRecDepth 20000 in
theorem ggX10_count_X10_capacity : GoodIn wsX10_count wsX10_capacity := goodIn_r _ [21, 2, 25, 26, 27, 28, 29, 30, 31, 32, 33, 34, 35, 36, 37, 38, 39] (by decide +kernel) (by decide +kernel)
set_option maxRecDepth 20000 in
theorem gX10_count_X10_capacity : GoodIn wsX10_count (wsV RX10 70 RX10 yX10_capacity wsX10_capacity) := goodIn_app (goodIn_of _ (by decide +kernel)) ggX10_count_X10_capacity
set_option maxRecDepth 20000 in
theorem ggX10_count_X10_in : GoodIn wsX10_count wsX10_in := goodIn_r _ [24] (by decide +kernel) (by decide +kernel)
set_option maxRecDepth 20000 in
theorem gX10_count_X10_in : GoodIn wsX10_count (va_wsS RX10 92 yX10_in wsX10_in) := goodIn_app (goodIn_of _ (by decide +kernel)) ggX10_count_X10_in
theorem dX10_count_0 : decode cX10_count 0 = .ok (.aload_n 0, 1) := by decide +kernel
theorem dX10_count_1 : decode cX10_count 1 = .ok (.iconst 0, 1) := by decide +kernel
theorem dX10_count_2 : decode cX10_count 2 = .ok (.putfield 32, 3) := by decide +kernel
theorem dX10_count_5 : decode cX10_count 5 = .ok (.iload_n 1, 1) := by decide +kernel
theorem dX10_count_6 : decode cX10_count 6 = .ok (.tableswitch 179 0 18 #[90, 98, 106, 114, 119, 124, 132, 140, 145, 153, 161, 179, 179, 179, 179, 179, 179, 169, 174], 90) := by decide +kernel
theorem dX10_count_96 : decode cX10_count 96 = .ok (.aload_n 0, 1) := by decide +kernel
theorem dX10_count_97 : decode cX10_count 97 = .ok (.getfield 7, 3) := by decide +kernel
theorem dX10_count_100 : decode cX10_count 100 = .ok (.bipush 6, 2) := by decide +kernel
theorem dX10_count_102 : decode cX10_count 102 = .ok (.iaload, 1) := by decide +kernel
theorem dX10_count_103 : decode cX10_count 103 = .ok (.ireturn, 1) := by decide +kernel
theorem dX10_count_104 : decode cX10_count 104 = .ok (.aload_n 0, 1) := by decide +kernel
theorem dX10_count_105 : decode cX10_count 105 = .ok (.getfield 7, 3) := by decide +kernel
theorem dX10_count_108 : decode cX10_count 108 = .ok (.bipush 7, 2) := by decide +kernel
theorem dX10_count_110 : decode cX10_count 110 = .ok (.iaload, 1) := by decide +kernel
theorem dX10_count_111 : decode cX10_count 111 = .ok (.ireturn, 1) := by decide +kernel
theorem dX10_count_112 : decode cX10_count 112 = .ok (.aload_n 0, 1) := by decide +kernel
theorem dX10_count_113 : decode cX10_count 113 = .ok (.getfield 7, 3) := by decide +kernel
theorem dX10_count_116 : decode cX10_count 116 = .ok (.bipush 8, 2) := by decide +kernel
theorem dX10_count_118 : decode cX10_count 118 = .ok (.iaload, 1) := by decide +kernel
theorem dX10_count_119 : decode cX10_count 119 = .ok (.ireturn, 1) := by decide +kernel
theorem dX10_count_120 : decode cX10_count 120 = .ok (.aload_n 0, 1) := by decide +kernel
theorem dX10_count_121 : decode cX10_count 121 = .ok (.invokevirtual 138, 3) := by decide +kernel
theorem dX10_count_124 : decode cX10_count 124 = .ok (.ireturn, 1) := by decide +kernel
theorem dX10_count_125 : decode cX10_count 125 = .ok (.aload_n 0, 1) := by decide +kernel
theorem dX10_count_126 : decode cX10_count 126 = .ok (.invokevirtual 141, 3) := by decide +kernel
theorem dX10_count_129 : decode cX10_count 129 = .ok (.ireturn, 1) := by decide +kernel
theorem dX10_count_130 : decode cX10_count 130 = .ok (.aload_n 0, 1) := by decide +kernel
theorem dX10_count_131 : decode cX10_count 131 = .ok (.getfield 7, 3) := by decide +kernel
theorem dX10_count_134 : decode cX10_count 134 = .ok (.bipush 9, 2) := by decide +kernel
theorem dX10_count_136 : decode cX10_count 136 = .ok (.iaload, 1) := by decide +kernel
theorem dX10_count_137 : decode cX10_count 137 = .ok (.ireturn, 1) := by decide +kernel
theorem dX10_count_138 : decode cX10_count 138 = .ok (.aload_n 0, 1) := by decide +kernel
theorem dX10_count_139 : decode cX10_count 139 = .ok (.getfield 7, 3) := by decide +kernel
theorem dX10_count_142 : decode cX10_count 142 = .ok (.bipush 10, 2) := by decide +kernel
theorem dX10_count_144 : decode cX10_count 144 = .ok (.iaload, 1) := by decide +kernel
theorem dX10_count_145 : decode cX10_count 145 = .ok (.ireturn, 1) := by decide +kernel
theorem dX10_count_146 : decode cX10_count 146 = .ok (.aload_n 0, 1) := by decide +kernel
theorem dX10_count_147 : decode cX10_count 147 = .ok (.invokevirtual 70, 3) := by decide +kernel
theorem dX10_count_150 : decode cX10_count 150 = .ok (.ireturn, 1) := by decide +kernel
theorem dX10_count_151 : decode cX10_count 151 = .ok (.aload_n 0, 1) := by decide +kernel
theorem dX10_count_152 : decode cX10_count 152 = .ok (.getfield 7, 3) := by decide +kernel
theorem dX10_count_155 : decode cX10_count 155 = .ok (.bipush 11, 2) := by decide +kernel
theorem dX10_count_157 : decode cX10_count 157 = .ok (.iaload, 1) := by decide +kernel
theorem dX10_count_158 : decode cX10_count 158 = .ok (.ireturn, 1) := by decide +kernel
theorem dX10_count_159 : decode cX10_count 159 = .ok (.aload_n 0, 1) := by decide +kernel
theorem dX10_count_160 : decode cX10_count 160 = .ok (.getfield 7, 3) := by decide +kernel
theorem dX10_count_163 : decode cX10_count 163 = .ok (.bipush 12, 2) := by decide +kernel
theorem dX10_count_165 : decode cX10_count 165 = .ok (.iaload, 1) := by decide +kernel
theorem dX10_count_166 : decode cX10_count 166 = .ok (.ireturn, 1) := by decide +kernel
theorem dX10_count_167 : decode cX10_count 167 = .ok (.aload_n 0, 1) := by decide +kernel
theorem dX10_count_168 : decode cX10_count 168 = .ok (.getfield 7, 3) := by decide +kernel
theorem dX10_count_171 : decode cX10_count 171 = .ok (.bipush 13, 2) := by decide +kernel
theorem dX10_count_173 : decode cX10_count 173 = .ok (.iaload, 1) := by decide +kernel
theorem dX10_count_174 : decode cX10_count 174 = .ok (.ireturn, 1) := by decide +kernel
theorem dX10_count_175 : decode cX10_count 175 = .ok (.aload_n 0, 1) := by decide +kernel
theorem dX10_count_176 : decode cX10_count 176 = .ok (.getfield 144, 3) := by decide +kernel
theorem dX10_count_179 : decode cX10_count 179 = .ok (.ireturn, 1) := by decide +kernel
theorem dX10_count_180 : decode cX10_count 180 = .ok (.aload_n 0, 1) := by decide +kernel
theorem dX10_count_181 : decode cX10_count 181 = .ok (.getfield 36, 3) := by decide +kernel
theorem dX10_count_184 : decode cX10_count 184 = .ok (.ireturn, 1) := by decide +kernel
theorem dX10_count_185 : decode cX10_count 185 = .ok (.iload_n 1, 1) := by decide +kernel
theorem dX10_count_186 : decode cX10_count 186 = .ok (.bipush 11, 2) := by decide +kernel
theorem dX10_count_188 : decode cX10_count 188 = .ok (.bipush 16, 2) := by decide +kernel
theorem dX10_count_190 : decode cX10_count 190 = .ok (.invokestatic 92, 3) := by decide +kernel
theorem dX10_count_193 : decode cX10_count 193 = .ok (.ifCond .eq 15, 3) := by decide +kernel
theorem dX10_count_196 : decode cX10_count 196 = .ok (.aload_n 0, 1) := by decide +kernel
theorem dX10_count_197 : decode cX10_count 197 = .ok (.getfield 7, 3) := by decide +kernel
theorem dX10_count_200 : decode cX10_count 200 = .ok (.iload_n 1, 1) := by decide +kernel
theorem dX10_count_201 : decode cX10_count 201 = .ok (.bipush 11, 2) := by decide +kernel
theorem dX10_count_203 : decode cX10_count 203 = .ok (.isub, 1) := by decide +kernel
theorem dX10_count_204 : decode cX10_count 204 = .ok (.iaload, 1) := by decide +kernel
theorem dX10_count_205 : decode cX10_count 205 = .ok (.goto 5, 3) := by decide +kernel
theorem dX10_count_208 : decode cX10_count 208 = .ok (.bipush (-2), 2) := by decide +kernel
theorem dX10_count_210 : decode cX10_count 210 = .ok (.ireturn, 1) := by decide +kernel
set_option maxRecDepth 20000 in
theorem ggX10_then_X10_in : GoodIn wsX10_then wsX10_in := goodIn_r _ [7] (by decide +kernel) (by decide +kernel)
set_option maxRecDepth 20000 in
theorem gX10_then_X10_in : GoodIn wsX10_then (va_wsS RX10 92 yX10_in wsX10_in) := goodIn_app (goodIn_of _ (by decide +kernel)) ggX10_then_X10_in
set_option maxRecDepth 20000 in
theorem ggX10_then_X10_putAside : GoodIn wsX10_then wsX10_putAside := goodIn_r _ [11, 12, 2, 78, 79, 80, 81, 82, 83, 84, 85, 86, 87, 88, 89, 90, 91, 92] (by decide +kernel) (by decide +kernel)
set_option maxRecDepth 20000 in
theorem gX10_then_X10_putAside : GoodIn wsX10_then (wsV RX10 147 RX10 yX10_putAside wsX10_putAside) := goodIn_app (goodIn_of _ (by decide +kernel)) ggX10_then_X10_putAside
set_option maxRecDepth 20000 in
theorem ggX10_then_X10_days : GoodIn wsX10_then wsX10_days := goodIn_r _ [16, 2, 17, 18, 19, 6, 20, 21, 22, 23, 24, 25, 26, 27, 28, 29, 30, 31, 32, 33, 34, 35, 36, 37, 38, 39, 40, 41, 42, 43, 44, 45, 46, 47, 48, 49, 50, 51, 52, 53, 54, 55, 56, 57, 58, 59, 60, 61, 62, 63, 64, 65, 66, 67, 68, 69, 70, 71, 72, 73, 78, 79, 80, 81, 82, 83, 84, 85, 86, 87, 88, 89, 90, 91, 92] (by decide +kernel) (by decide +kernel)
set_option maxRecDepth 20000 in
theorem gX10_then_X10_days : GoodIn wsX10_then (wsV RX10 132 RX10 yX10_days wsX10_days) := goodIn_app (goodIn_of _ (by decide +kernel)) ggX10_then_X10_days
set_option maxRecDepth 20000 in
theorem ggX10_then_X10_takeBack : GoodIn wsX10_then wsX10_takeBack := goodIn_r _ [77, 2, 12, 78, 79, 80, 81, 82, 83, 84, 85, 86, 87, 88, 89, 90, 91, 92] (by decide +kernel) (by decide +kernel)
set_option maxRecDepth 20000 in
theorem gX10_then_X10_takeBack : GoodIn wsX10_then (wsV RX10 150 RX10 yX10_takeBack wsX10_takeBack) := goodIn_app (goodIn_of _ (by decide +kernel)) ggX10_then_X10_takeBack
theorem dX10_then_0 : decode cX10_then 0 = .ok (.aload_n 0, 1) := by decide +kernel
theorem dX10_then_1 : decode cX10_then 1 = .ok (.iconst 0, 1) := by decide +kernel
theorem dX10_then_2 : decode cX10_then 2 = .ok (.putfield 32, 3) := by decide +kernel
theorem dX10_then_5 : decode cX10_then 5 = .ok (.iload_n 1, 1) := by decide +kernel
theorem dX10_then_6 : decode cX10_then 6 = .ok (.iconst 1, 1) := by decide +kernel
theorem dX10_then_7 : decode cX10_then 7 = .ok (.bipush 30, 2) := by decide +kernel
theorem dX10_then_9 : decode cX10_then 9 = .ok (.invokestatic 92, 3) := by decide +kernel
theorem dX10_then_12 : decode cX10_then 12 = .ok (.ifCond .eq 12, 3) := by decide +kernel
theorem dX10_then_15 : decode cX10_then 15 = .ok (.iload_n 2, 1) := by decide +kernel
theorem dX10_then_16 : decode cX10_then 16 = .ok (.iconst 0, 1) := by decide +kernel
theorem dX10_then_17 : decode cX10_then 17 = .ok (.iconst 1, 1) := by decide +kernel
theorem dX10_then_18 : decode cX10_then 18 = .ok (.invokestatic 92, 3) := by decide +kernel
theorem dX10_then_21 : decode cX10_then 21 = .ok (.ifCond .ne 6, 3) := by decide +kernel
theorem dX10_then_24 : decode cX10_then 24 = .ok (.bipush (-2), 2) := by decide +kernel
theorem dX10_then_26 : decode cX10_then 26 = .ok (.ireturn, 1) := by decide +kernel
theorem dX10_then_27 : decode cX10_then 27 = .ok (.aload_n 0, 1) := by decide +kernel
theorem dX10_then_28 : decode cX10_then 28 = .ok (.invokevirtual 147, 3) := by decide +kernel
theorem dX10_then_31 : decode cX10_then 31 = .ok (.aload_n 0, 1) := by decide +kernel
theorem dX10_then_32 : decode cX10_then 32 = .ok (.getfield 7, 3) := by decide +kernel
theorem dX10_then_35 : decode cX10_then 35 = .ok (.bipush 12, 2) := by decide +kernel
theorem dX10_then_37 : decode cX10_then 37 = .ok (.iaload, 1) := by decide +kernel
theorem dX10_then_38 : decode cX10_then 38 = .ok (.aload_n 0, 1) := by decide +kernel
theorem dX10_then_39 : decode cX10_then 39 = .ok (.getfield 7, 3) := by decide +kernel
theorem dX10_then_42 : decode cX10_then 42 = .ok (.bipush 13, 2) := by decide +kernel
theorem dX10_then_44 : decode cX10_then 44 = .ok (.iaload, 1) := by decide +kernel
theorem dX10_then_45 : decode cX10_then 45 = .ok (.isub, 1) := by decide +kernel
theorem dX10_then_46 : decode cX10_then 46 = .ok (.istore_n 3, 1) := by decide +kernel
theorem dX10_then_47 : decode cX10_then 47 = .ok (.aload_n 0, 1) := by decide +kernel
theorem dX10_then_48 : decode cX10_then 48 = .ok (.iload_n 1, 1) := by decide +kernel
theorem dX10_then_49 : decode cX10_then 49 = .ok (.invokevirtual 132, 3) := by decide +kernel
theorem dX10_then_52 : decode cX10_then 52 = .ok (.istore 4, 2) := by decide +kernel
theorem dX10_then_54 : decode cX10_then 54 = .ok (.aload_n 0, 1) := by decide +kernel
theorem dX10_then_55 : decode cX10_then 55 = .ok (.getfield 7, 3) := by decide +kernel
theorem dX10_then_58 : decode cX10_then 58 = .ok (.bipush 12, 2) := by decide +kernel
theorem dX10_then_60 : decode cX10_then 60 = .ok (.iaload, 1) := by decide +kernel
theorem dX10_then_61 : decode cX10_then 61 = .ok (.aload_n 0, 1) := by decide +kernel
theorem dX10_then_62 : decode cX10_then 62 = .ok (.getfield 7, 3) := by decide +kernel
theorem dX10_then_65 : decode cX10_then 65 = .ok (.bipush 13, 2) := by decide +kernel
theorem dX10_then_67 : decode cX10_then 67 = .ok (.iaload, 1) := by decide +kernel
theorem dX10_then_68 : decode cX10_then 68 = .ok (.isub, 1) := by decide +kernel
theorem dX10_then_69 : decode cX10_then 69 = .ok (.iload_n 3, 1) := by decide +kernel
theorem dX10_then_70 : decode cX10_then 70 = .ok (.isub, 1) := by decide +kernel
theorem dX10_then_71 : decode cX10_then 71 = .ok (.istore 5, 2) := by decide +kernel
theorem dX10_then_73 : decode cX10_then 73 = .ok (.aload_n 0, 1) := by decide +kernel
theorem dX10_then_74 : decode cX10_then 74 = .ok (.invokevirtual 150, 3) := by decide +kernel
theorem dX10_then_77 : decode cX10_then 77 = .ok (.iload_n 2, 1) := by decide +kernel
theorem dX10_then_78 : decode cX10_then 78 = .ok (.ifCond .ne 8, 3) := by decide +kernel
theorem dX10_then_81 : decode cX10_then 81 = .ok (.iload 4, 2) := by decide +kernel
theorem dX10_then_83 : decode cX10_then 83 = .ok (.goto 8, 3) := by decide +kernel
theorem dX10_then_86 : decode cX10_then 86 = .ok (.iload 5, 2) := by decide +kernel
theorem dX10_then_88 : decode cX10_then 88 = .ok (.ldc 153, 2) := by decide +kernel
theorem dX10_then_90 : decode cX10_then 90 = .ok (.iadd, 1) := by decide +kernel
theorem dX10_then_91 : decode cX10_then 91 = .ok (.ireturn, 1) := by decide +kernel
set_option maxRecDepth 20000 in
theorem ggX10_bestGap_X10_in : GoodIn wsX10_bestGap wsX10_in := goodIn_r _ [6] (by decide +kernel) (by decide +kernel)
set_option maxRecDepth 20000 in
theorem gX10_bestGap_X10_in : GoodIn wsX10_bestGap (va_wsS RX10 92 yX10_in wsX10_in) := goodIn_app (goodIn_of _ (by decide +kernel)) ggX10_bestGap_X10_in
set_option maxRecDepth 20000 in
theorem ggX10_bestGap_X10_putAside : GoodIn wsX10_bestGap wsX10_putAside := goodIn_r _ [10, 11, 2, 77, 78, 79, 80, 81, 82, 83, 84, 85, 86, 87, 88, 89, 90, 91] (by decide +kernel) (by decide +kernel)
set_option maxRecDepth 20000 in
theorem gX10_bestGap_X10_putAside : GoodIn wsX10_bestGap (wsV RX10 147 RX10 yX10_putAside wsX10_putAside) := goodIn_app (goodIn_of _ (by decide +kernel)) ggX10_bestGap_X10_putAside
set_option maxRecDepth 20000 in
theorem ggX10_bestGap_X10_days : GoodIn wsX10_bestGap wsX10_days := goodIn_r _ [15, 2, 16, 17, 18, 5, 19, 20, 21, 22, 23, 24, 25, 26, 27, 28, 29, 30, 31, 32, 33, 34, 35, 36, 37, 38, 39, 40, 41, 42, 43, 44, 45, 46, 47, 48, 49, 50, 51, 52, 53, 54, 55, 56, 57, 58, 59, 60, 61, 62, 63, 64, 65, 66, 67, 68, 69, 70, 71, 72, 77, 78, 79, 80, 81, 82, 83, 84, 85, 86, 87, 88, 89, 90, 91] (by decide +kernel) (by decide +kernel)
set_option maxRecDepth 20000 in
theorem gX10_bestGap_X10_days : GoodIn wsX10_bestGap (wsV RX10 132 RX10 yX10_days wsX10_days) := goodIn_app (goodIn_of _ (by decide +kernel)) ggX10_bestGap_X10_days
set_option maxRecDepth 20000 in
theorem ggX10_bestGap_X10_takeBack : GoodIn wsX10_bestGap wsX10_takeBack := goodIn_r _ [76, 2, 11, 77, 78, 79, 80, 81, 82, 83, 84, 85, 86, 87, 88, 89, 90, 91] (by decide +kernel) (by decide +kernel)
set_option maxRecDepth 20000 in
theorem gX10_bestGap_X10_takeBack : GoodIn wsX10_bestGap (wsV RX10 150 RX10 yX10_takeBack wsX10_takeBack) := goodIn_app (goodIn_of _ (by decide +kernel)) ggX10_bestGap_X10_takeBack
theorem dX10_bestGap_0 : decode cX10_bestGap 0 = .ok (.aload_n 0, 1) := by decide +kernel
theorem dX10_bestGap_1 : decode cX10_bestGap 1 = .ok (.iconst 0, 1) := by decide +kernel
theorem dX10_bestGap_2 : decode cX10_bestGap 2 = .ok (.putfield 32, 3) := by decide +kernel
theorem dX10_bestGap_5 : decode cX10_bestGap 5 = .ok (.iload_n 1, 1) := by decide +kernel
theorem dX10_bestGap_6 : decode cX10_bestGap 6 = .ok (.iconst 1, 1) := by decide +kernel
theorem dX10_bestGap_7 : decode cX10_bestGap 7 = .ok (.bipush 30, 2) := by decide +kernel
theorem dX10_bestGap_9 : decode cX10_bestGap 9 = .ok (.invokestatic 92, 3) := by decide +kernel
theorem dX10_bestGap_12 : decode cX10_bestGap 12 = .ok (.ifCond .eq 12, 3) := by decide +kernel
theorem dX10_bestGap_15 : decode cX10_bestGap 15 = .ok (.iload_n 2, 1) := by decide +kernel
theorem dX10_bestGap_16 : decode cX10_bestGap 16 = .ok (.iconst 0, 1) := by decide +kernel
theorem dX10_bestGap_17 : decode cX10_bestGap 17 = .ok (.iconst 1, 1) := by decide +kernel
theorem dX10_bestGap_18 : decode cX10_bestGap 18 = .ok (.invokestatic 92, 3) := by decide +kernel
theorem dX10_bestGap_21 : decode cX10_bestGap 21 = .ok (.ifCond .ne 6, 3) := by decide +kernel
theorem dX10_bestGap_24 : decode cX10_bestGap 24 = .ok (.bipush (-2), 2) := by decide +kernel
theorem dX10_bestGap_26 : decode cX10_bestGap 26 = .ok (.ireturn, 1) := by decide +kernel
theorem dX10_bestGap_27 : decode cX10_bestGap 27 = .ok (.aload_n 0, 1) := by decide +kernel
theorem dX10_bestGap_28 : decode cX10_bestGap 28 = .ok (.invokevirtual 147, 3) := by decide +kernel
theorem dX10_bestGap_31 : decode cX10_bestGap 31 = .ok (.iconst 0, 1) := by decide +kernel
theorem dX10_bestGap_32 : decode cX10_bestGap 32 = .ok (.istore_n 3, 1) := by decide +kernel
theorem dX10_bestGap_33 : decode cX10_bestGap 33 = .ok (.bipush (-6), 2) := by decide +kernel
theorem dX10_bestGap_35 : decode cX10_bestGap 35 = .ok (.istore 4, 2) := by decide +kernel
theorem dX10_bestGap_37 : decode cX10_bestGap 37 = .ok (.iconst 1, 1) := by decide +kernel
theorem dX10_bestGap_38 : decode cX10_bestGap 38 = .ok (.istore 5, 2) := by decide +kernel
theorem dX10_bestGap_40 : decode cX10_bestGap 40 = .ok (.iload 5, 2) := by decide +kernel
theorem dX10_bestGap_42 : decode cX10_bestGap 42 = .ok (.bipush 10, 2) := by decide +kernel
theorem dX10_bestGap_44 : decode cX10_bestGap 44 = .ok (.if_icmp .ge 78, 3) := by decide +kernel
theorem dX10_bestGap_47 : decode cX10_bestGap 47 = .ok (.aload_n 0, 1) := by decide +kernel
theorem dX10_bestGap_48 : decode cX10_bestGap 48 = .ok (.getfield 7, 3) := by decide +kernel
theorem dX10_bestGap_51 : decode cX10_bestGap 51 = .ok (.bipush 12, 2) := by decide +kernel
theorem dX10_bestGap_53 : decode cX10_bestGap 53 = .ok (.iaload, 1) := by decide +kernel
theorem dX10_bestGap_54 : decode cX10_bestGap 54 = .ok (.istore 6, 2) := by decide +kernel
theorem dX10_bestGap_56 : decode cX10_bestGap 56 = .ok (.aload_n 0, 1) := by decide +kernel
theorem dX10_bestGap_57 : decode cX10_bestGap 57 = .ok (.getfield 7, 3) := by decide +kernel
theorem dX10_bestGap_60 : decode cX10_bestGap 60 = .ok (.iconst 3, 1) := by decide +kernel
theorem dX10_bestGap_61 : decode cX10_bestGap 61 = .ok (.iload 5, 2) := by decide +kernel
theorem dX10_bestGap_63 : decode cX10_bestGap 63 = .ok (.iastore, 1) := by decide +kernel
theorem dX10_bestGap_64 : decode cX10_bestGap 64 = .ok (.aload_n 0, 1) := by decide +kernel
theorem dX10_bestGap_65 : decode cX10_bestGap 65 = .ok (.iload_n 1, 1) := by decide +kernel
theorem dX10_bestGap_66 : decode cX10_bestGap 66 = .ok (.invokevirtual 132, 3) := by decide +kernel
theorem dX10_bestGap_69 : decode cX10_bestGap 69 = .ok (.pop, 1) := by decide +kernel
theorem dX10_bestGap_70 : decode cX10_bestGap 70 = .ok (.aload_n 0, 1) := by decide +kernel
theorem dX10_bestGap_71 : decode cX10_bestGap 71 = .ok (.getfield 7, 3) := by decide +kernel
theorem dX10_bestGap_74 : decode cX10_bestGap 74 = .ok (.bipush 12, 2) := by decide +kernel
theorem dX10_bestGap_76 : decode cX10_bestGap 76 = .ok (.iaload, 1) := by decide +kernel
theorem dX10_bestGap_77 : decode cX10_bestGap 77 = .ok (.iload 6, 2) := by decide +kernel
theorem dX10_bestGap_79 : decode cX10_bestGap 79 = .ok (.isub, 1) := by decide +kernel
theorem dX10_bestGap_80 : decode cX10_bestGap 80 = .ok (.istore 7, 2) := by decide +kernel
theorem dX10_bestGap_82 : decode cX10_bestGap 82 = .ok (.aload_n 0, 1) := by decide +kernel
theorem dX10_bestGap_83 : decode cX10_bestGap 83 = .ok (.invokevirtual 150, 3) := by decide +kernel
theorem dX10_bestGap_86 : decode cX10_bestGap 86 = .ok (.iload 7, 2) := by decide +kernel
theorem dX10_bestGap_88 : decode cX10_bestGap 88 = .ok (.iload 4, 2) := by decide +kernel
theorem dX10_bestGap_90 : decode cX10_bestGap 90 = .ok (.if_icmp .le 8, 3) := by decide +kernel
theorem dX10_bestGap_93 : decode cX10_bestGap 93 = .ok (.iload 5, 2) := by decide +kernel
theorem dX10_bestGap_95 : decode cX10_bestGap 95 = .ok (.goto 4, 3) := by decide +kernel
theorem dX10_bestGap_98 : decode cX10_bestGap 98 = .ok (.iload_n 3, 1) := by decide +kernel
theorem dX10_bestGap_99 : decode cX10_bestGap 99 = .ok (.istore_n 3, 1) := by decide +kernel
theorem dX10_bestGap_100 : decode cX10_bestGap 100 = .ok (.iload 7, 2) := by decide +kernel
theorem dX10_bestGap_102 : decode cX10_bestGap 102 = .ok (.iload 4, 2) := by decide +kernel
theorem dX10_bestGap_104 : decode cX10_bestGap 104 = .ok (.if_icmp .le 8, 3) := by decide +kernel
theorem dX10_bestGap_107 : decode cX10_bestGap 107 = .ok (.iload 7, 2) := by decide +kernel
theorem dX10_bestGap_109 : decode cX10_bestGap 109 = .ok (.goto 5, 3) := by decide +kernel
theorem dX10_bestGap_112 : decode cX10_bestGap 112 = .ok (.iload 4, 2) := by decide +kernel
theorem dX10_bestGap_114 : decode cX10_bestGap 114 = .ok (.istore 4, 2) := by decide +kernel
theorem dX10_bestGap_116 : decode cX10_bestGap 116 = .ok (.iinc 5 1, 3) := by decide +kernel
theorem dX10_bestGap_119 : decode cX10_bestGap 119 = .ok (.goto (-79), 3) := by decide +kernel
theorem dX10_bestGap_122 : decode cX10_bestGap 122 = .ok (.iload_n 2, 1) := by decide +kernel
theorem dX10_bestGap_123 : decode cX10_bestGap 123 = .ok (.ifCond .ne 7, 3) := by decide +kernel
theorem dX10_bestGap_126 : decode cX10_bestGap 126 = .ok (.iload_n 3, 1) := by decide +kernel
theorem dX10_bestGap_127 : decode cX10_bestGap 127 = .ok (.goto 5, 3) := by decide +kernel
theorem dX10_bestGap_130 : decode cX10_bestGap 130 = .ok (.iload 4, 2) := by decide +kernel
theorem dX10_bestGap_132 : decode cX10_bestGap 132 = .ok (.ireturn, 1) := by decide +kernel
set_option maxRecDepth 20000 in
theorem ggX10_leastTrucks_X10_in : GoodIn wsX10_leastTrucks wsX10_in := goodIn_r _ [6] (by decide +kernel) (by decide +kernel)
set_option maxRecDepth 20000 in
theorem gX10_leastTrucks_X10_in : GoodIn wsX10_leastTrucks (va_wsS RX10 92 yX10_in wsX10_in) := goodIn_app (goodIn_of _ (by decide +kernel)) ggX10_leastTrucks_X10_in
set_option maxRecDepth 20000 in
theorem ggX10_leastTrucks_X10_putAside : GoodIn wsX10_leastTrucks wsX10_putAside := goodIn_r _ [10, 11, 2, 85, 86, 87, 88, 89, 90, 91, 92, 93, 94, 95, 96, 97, 98, 99] (by decide +kernel) (by decide +kernel)
set_option maxRecDepth 20000 in
theorem gX10_leastTrucks_X10_putAside : GoodIn wsX10_leastTrucks (wsV RX10 147 RX10 yX10_putAside wsX10_putAside) := goodIn_app (goodIn_of _ (by decide +kernel)) ggX10_leastTrucks_X10_putAside
set_option maxRecDepth 20000 in
theorem ggX10_leastTrucks_X10_trucksNeeded : GoodIn wsX10_leastTrucks wsX10_trucksNeeded := goodIn_r _ [15, 2, 16, 17, 18, 5, 19, 85, 86, 87, 88, 89, 90, 91, 92, 93, 94, 95, 96, 97, 98, 99] (by decide +kernel) (by decide +kernel)
set_option maxRecDepth 20000 in
theorem gX10_leastTrucks_X10_trucksNeeded : GoodIn wsX10_leastTrucks (wsV RX10 103 RX10 yX10_trucksNeeded wsX10_trucksNeeded) := goodIn_app (goodIn_of _ (by decide +kernel)) ggX10_leastTrucks_X10_trucksNeeded
set_option maxRecDepth 20000 in
theorem ggX10_leastTrucks_X10_days : GoodIn wsX10_leastTrucks wsX10_days := goodIn_r _ [23, 2, 24, 25, 26, 5, 27, 28, 29, 30, 31, 32, 33, 34, 35, 36, 37, 38, 39, 40, 41, 42, 43, 44, 45, 46, 47, 48, 49, 50, 51, 52, 53, 54, 55, 56, 57, 58, 59, 60, 61, 62, 63, 64, 65, 66, 67, 68, 69, 70, 71, 72, 73, 74, 75, 76, 77, 78, 79, 80, 85, 86, 87, 88, 89, 90, 91, 92, 93, 94, 95, 96, 97, 98, 99] (by decide +kernel) (by decide +kernel)
set_option maxRecDepth 20000 in
theorem gX10_leastTrucks_X10_days : GoodIn wsX10_leastTrucks (wsV RX10 132 RX10 yX10_days wsX10_days) := goodIn_app (goodIn_of _ (by decide +kernel)) ggX10_leastTrucks_X10_days
set_option maxRecDepth 20000 in
theorem ggX10_leastTrucks_X10_takeBack : GoodIn wsX10_leastTrucks wsX10_takeBack := goodIn_r _ [84, 2, 11, 85, 86, 87, 88, 89, 90, 91, 92, 93, 94, 95, 96, 97, 98, 99] (by decide +kernel) (by decide +kernel)
set_option maxRecDepth 20000 in
theorem gX10_leastTrucks_X10_takeBack : GoodIn wsX10_leastTrucks (wsV RX10 150 RX10 yX10_takeBack wsX10_takeBack) := goodIn_app (goodIn_of _ (by decide +kernel)) ggX10_leastTrucks_X10_takeBack
theorem dX10_leastTrucks_0 : decode cX10_leastTrucks 0 = .ok (.aload_n 0, 1) := by decide +kernel
theorem dX10_leastTrucks_1 : decode cX10_leastTrucks 1 = .ok (.iconst 0, 1) := by decide +kernel
theorem dX10_leastTrucks_2 : decode cX10_leastTrucks 2 = .ok (.putfield 32, 3) := by decide +kernel
theorem dX10_leastTrucks_5 : decode cX10_leastTrucks 5 = .ok (.iload_n 1, 1) := by decide +kernel
theorem dX10_leastTrucks_6 : decode cX10_leastTrucks 6 = .ok (.iconst 1, 1) := by decide +kernel
theorem dX10_leastTrucks_7 : decode cX10_leastTrucks 7 = .ok (.bipush 30, 2) := by decide +kernel
theorem dX10_leastTrucks_9 : decode cX10_leastTrucks 9 = .ok (.invokestatic 92, 3) := by decide +kernel
theorem dX10_leastTrucks_12 : decode cX10_leastTrucks 12 = .ok (.ifCond .eq 7, 3) := by decide +kernel
theorem dX10_leastTrucks_15 : decode cX10_leastTrucks 15 = .ok (.iload_n 2, 1) := by decide +kernel
theorem dX10_leastTrucks_16 : decode cX10_leastTrucks 16 = .ok (.ifCond .ge 6, 3) := by decide +kernel
theorem dX10_leastTrucks_19 : decode cX10_leastTrucks 19 = .ok (.bipush (-2), 2) := by decide +kernel
theorem dX10_leastTrucks_21 : decode cX10_leastTrucks 21 = .ok (.ireturn, 1) := by decide +kernel
theorem dX10_leastTrucks_22 : decode cX10_leastTrucks 22 = .ok (.aload_n 0, 1) := by decide +kernel
theorem dX10_leastTrucks_23 : decode cX10_leastTrucks 23 = .ok (.invokevirtual 147, 3) := by decide +kernel
theorem dX10_leastTrucks_26 : decode cX10_leastTrucks 26 = .ok (.bipush (-6), 2) := by decide +kernel
theorem dX10_leastTrucks_28 : decode cX10_leastTrucks 28 = .ok (.istore_n 3, 1) := by decide +kernel
theorem dX10_leastTrucks_29 : decode cX10_leastTrucks 29 = .ok (.aload_n 0, 1) := by decide +kernel
theorem dX10_leastTrucks_30 : decode cX10_leastTrucks 30 = .ok (.invokevirtual 103, 3) := by decide +kernel
theorem dX10_leastTrucks_33 : decode cX10_leastTrucks 33 = .ok (.istore 4, 2) := by decide +kernel
theorem dX10_leastTrucks_35 : decode cX10_leastTrucks 35 = .ok (.iload 4, 2) := by decide +kernel
theorem dX10_leastTrucks_37 : decode cX10_leastTrucks 37 = .ok (.bipush 20, 2) := by decide +kernel
theorem dX10_leastTrucks_39 : decode cX10_leastTrucks 39 = .ok (.if_icmp .gt 44, 3) := by decide +kernel
theorem dX10_leastTrucks_42 : decode cX10_leastTrucks 42 = .ok (.iload_n 3, 1) := by decide +kernel
theorem dX10_leastTrucks_43 : decode cX10_leastTrucks 43 = .ok (.bipush (-6), 2) := by decide +kernel
theorem dX10_leastTrucks_45 : decode cX10_leastTrucks 45 = .ok (.if_icmp .ne 38, 3) := by decide +kernel
theorem dX10_leastTrucks_48 : decode cX10_leastTrucks 48 = .ok (.aload_n 0, 1) := by decide +kernel
theorem dX10_leastTrucks_49 : decode cX10_leastTrucks 49 = .ok (.getfield 7, 3) := by decide +kernel
theorem dX10_leastTrucks_52 : decode cX10_leastTrucks 52 = .ok (.iconst 0, 1) := by decide +kernel
theorem dX10_leastTrucks_53 : decode cX10_leastTrucks 53 = .ok (.iload 4, 2) := by decide +kernel
theorem dX10_leastTrucks_55 : decode cX10_leastTrucks 55 = .ok (.iastore, 1) := by decide +kernel
theorem dX10_leastTrucks_56 : decode cX10_leastTrucks 56 = .ok (.aload_n 0, 1) := by decide +kernel
theorem dX10_leastTrucks_57 : decode cX10_leastTrucks 57 = .ok (.iload_n 1, 1) := by decide +kernel
theorem dX10_leastTrucks_58 : decode cX10_leastTrucks 58 = .ok (.invokevirtual 132, 3) := by decide +kernel
theorem dX10_leastTrucks_61 : decode cX10_leastTrucks 61 = .ok (.iload_n 2, 1) := by decide +kernel
theorem dX10_leastTrucks_62 : decode cX10_leastTrucks 62 = .ok (.if_icmp .lt 8, 3) := by decide +kernel
theorem dX10_leastTrucks_65 : decode cX10_leastTrucks 65 = .ok (.iload 4, 2) := by decide +kernel
theorem dX10_leastTrucks_67 : decode cX10_leastTrucks 67 = .ok (.goto 5, 3) := by decide +kernel
theorem dX10_leastTrucks_70 : decode cX10_leastTrucks 70 = .ok (.bipush (-6), 2) := by decide +kernel
theorem dX10_leastTrucks_72 : decode cX10_leastTrucks 72 = .ok (.istore_n 3, 1) := by decide +kernel
theorem dX10_leastTrucks_73 : decode cX10_leastTrucks 73 = .ok (.aload_n 0, 1) := by decide +kernel
theorem dX10_leastTrucks_74 : decode cX10_leastTrucks 74 = .ok (.invokevirtual 150, 3) := by decide +kernel
theorem dX10_leastTrucks_77 : decode cX10_leastTrucks 77 = .ok (.iinc 4 1, 3) := by decide +kernel
theorem dX10_leastTrucks_80 : decode cX10_leastTrucks 80 = .ok (.goto (-45), 3) := by decide +kernel
theorem dX10_leastTrucks_83 : decode cX10_leastTrucks 83 = .ok (.iload_n 3, 1) := by decide +kernel
theorem dX10_leastTrucks_84 : decode cX10_leastTrucks 84 = .ok (.ireturn, 1) := by decide +kernel
set_option maxRecDepth 20000 in
theorem ggX10_put_X10_in : GoodIn wsX10_put wsX10_in := goodIn_r _ [8] (by decide +kernel) (by decide +kernel)
set_option maxRecDepth 20000 in
theorem gX10_put_X10_in : GoodIn wsX10_put (va_wsS RX10 92 yX10_in wsX10_in) := goodIn_app (goodIn_of _ (by decide +kernel)) ggX10_put_X10_in
theorem dX10_put_0 : decode cX10_put 0 = .ok (.aload_n 0, 1) := by decide +kernel
theorem dX10_put_1 : decode cX10_put 1 = .ok (.iconst 0, 1) := by decide +kernel
theorem dX10_put_2 : decode cX10_put 2 = .ok (.putfield 32, 3) := by decide +kernel
theorem dX10_put_5 : decode cX10_put 5 = .ok (.iconst 0, 1) := by decide +kernel
theorem dX10_put_6 : decode cX10_put 6 = .ok (.istore_n 3, 1) := by decide +kernel
theorem dX10_put_7 : decode cX10_put 7 = .ok (.lload_n 1, 1) := by decide +kernel
theorem dX10_put_8 : decode cX10_put 8 = .ok (.lstore 4, 2) := by decide +kernel
theorem dX10_put_10 : decode cX10_put 10 = .ok (.iconst 1, 1) := by decide +kernel
theorem dX10_put_11 : decode cX10_put 11 = .ok (.istore 6, 2) := by decide +kernel
theorem dX10_put_13 : decode cX10_put 13 = .ok (.iload_n 3, 1) := by decide +kernel
theorem dX10_put_14 : decode cX10_put 14 = .ok (.bipush 8, 2) := by decide +kernel
theorem dX10_put_16 : decode cX10_put 16 = .ok (.if_icmp .ge 56, 3) := by decide +kernel
theorem dX10_put_19 : decode cX10_put 19 = .ok (.lload 4, 2) := by decide +kernel
theorem dX10_put_21 : decode cX10_put 21 = .ok (.ldc2_w 154, 3) := by decide +kernel
theorem dX10_put_24 : decode cX10_put 24 = .ok (.land, 1) := by decide +kernel
theorem dX10_put_25 : decode cX10_put 25 = .ok (.lconst 0, 1) := by decide +kernel
theorem dX10_put_26 : decode cX10_put 26 = .ok (.lcmp, 1) := by decide +kernel
theorem dX10_put_27 : decode cX10_put 27 = .ok (.ifCond .eq 45, 3) := by decide +kernel
theorem dX10_put_30 : decode cX10_put 30 = .ok (.iload 6, 2) := by decide +kernel
theorem dX10_put_32 : decode cX10_put 32 = .ok (.ifCond .eq 24, 3) := by decide +kernel
theorem dX10_put_35 : decode cX10_put 35 = .ok (.lload 4, 2) := by decide +kernel
theorem dX10_put_37 : decode cX10_put 37 = .ok (.ldc2_w 154, 3) := by decide +kernel
theorem dX10_put_40 : decode cX10_put 40 = .ok (.land, 1) := by decide +kernel
theorem dX10_put_41 : decode cX10_put 41 = .ok (.l2i, 1) := by decide +kernel
theorem dX10_put_42 : decode cX10_put 42 = .ok (.bipush 33, 2) := by decide +kernel
theorem dX10_put_44 : decode cX10_put 44 = .ok (.bipush 126, 2) := by decide +kernel
theorem dX10_put_46 : decode cX10_put 46 = .ok (.invokestatic 92, 3) := by decide +kernel
theorem dX10_put_49 : decode cX10_put 49 = .ok (.ifCond .eq 7, 3) := by decide +kernel
theorem dX10_put_52 : decode cX10_put 52 = .ok (.iconst 1, 1) := by decide +kernel
theorem dX10_put_53 : decode cX10_put 53 = .ok (.goto 4, 3) := by decide +kernel
theorem dX10_put_56 : decode cX10_put 56 = .ok (.iconst 0, 1) := by decide +kernel
theorem dX10_put_57 : decode cX10_put 57 = .ok (.istore 6, 2) := by decide +kernel
theorem dX10_put_59 : decode cX10_put 59 = .ok (.lload 4, 2) := by decide +kernel
theorem dX10_put_61 : decode cX10_put 61 = .ok (.bipush 8, 2) := by decide +kernel
theorem dX10_put_63 : decode cX10_put 63 = .ok (.lushr, 1) := by decide +kernel
theorem dX10_put_64 : decode cX10_put 64 = .ok (.lstore 4, 2) := by decide +kernel
theorem dX10_put_66 : decode cX10_put 66 = .ok (.iinc 3 1, 3) := by decide +kernel
theorem dX10_put_69 : decode cX10_put 69 = .ok (.goto (-56), 3) := by decide +kernel
theorem dX10_put_72 : decode cX10_put 72 = .ok (.iload_n 3, 1) := by decide +kernel
theorem dX10_put_73 : decode cX10_put 73 = .ok (.ifCond .eq 15, 3) := by decide +kernel
theorem dX10_put_76 : decode cX10_put 76 = .ok (.iload 6, 2) := by decide +kernel
theorem dX10_put_78 : decode cX10_put 78 = .ok (.ifCond .eq 10, 3) := by decide +kernel
theorem dX10_put_81 : decode cX10_put 81 = .ok (.lload 4, 2) := by decide +kernel
theorem dX10_put_83 : decode cX10_put 83 = .ok (.lconst 0, 1) := by decide +kernel
theorem dX10_put_84 : decode cX10_put 84 = .ok (.lcmp, 1) := by decide +kernel
theorem dX10_put_85 : decode cX10_put 85 = .ok (.ifCond .eq 6, 3) := by decide +kernel
theorem dX10_put_88 : decode cX10_put 88 = .ok (.bipush (-2), 2) := by decide +kernel
theorem dX10_put_90 : decode cX10_put 90 = .ok (.ireturn, 1) := by decide +kernel
theorem dX10_put_91 : decode cX10_put 91 = .ok (.aload_n 0, 1) := by decide +kernel
theorem dX10_put_92 : decode cX10_put 92 = .ok (.getfield 144, 3) := by decide +kernel
theorem dX10_put_95 : decode cX10_put 95 = .ok (.iload_n 3, 1) := by decide +kernel
theorem dX10_put_96 : decode cX10_put 96 = .ok (.iadd, 1) := by decide +kernel
theorem dX10_put_97 : decode cX10_put 97 = .ok (.bipush 80, 2) := by decide +kernel
theorem dX10_put_99 : decode cX10_put 99 = .ok (.if_icmp .le 6, 3) := by decide +kernel
theorem dX10_put_102 : decode cX10_put 102 = .ok (.bipush (-4), 2) := by decide +kernel
theorem dX10_put_104 : decode cX10_put 104 = .ok (.ireturn, 1) := by decide +kernel
theorem dX10_put_105 : decode cX10_put 105 = .ok (.iconst 0, 1) := by decide +kernel
theorem dX10_put_106 : decode cX10_put 106 = .ok (.istore 7, 2) := by decide +kernel
theorem dX10_put_108 : decode cX10_put 108 = .ok (.iload 7, 2) := by decide +kernel
theorem dX10_put_110 : decode cX10_put 110 = .ok (.iload_n 3, 1) := by decide +kernel
theorem dX10_put_111 : decode cX10_put 111 = .ok (.if_icmp .ge 37, 3) := by decide +kernel
theorem dX10_put_114 : decode cX10_put 114 = .ok (.aload_n 0, 1) := by decide +kernel
theorem dX10_put_115 : decode cX10_put 115 = .ok (.getfield 26, 3) := by decide +kernel
theorem dX10_put_118 : decode cX10_put 118 = .ok (.aload_n 0, 1) := by decide +kernel
theorem dX10_put_119 : decode cX10_put 119 = .ok (.getfield 144, 3) := by decide +kernel
theorem dX10_put_122 : decode cX10_put 122 = .ok (.iload 7, 2) := by decide +kernel
theorem dX10_put_124 : decode cX10_put 124 = .ok (.iadd, 1) := by decide +kernel
theorem dX10_put_125 : decode cX10_put 125 = .ok (.lload_n 1, 1) := by decide +kernel
theorem dX10_put_126 : decode cX10_put 126 = .ok (.bipush 8, 2) := by decide +kernel
theorem dX10_put_128 : decode cX10_put 128 = .ok (.iload_n 3, 1) := by decide +kernel
theorem dX10_put_129 : decode cX10_put 129 = .ok (.iconst 1, 1) := by decide +kernel
theorem dX10_put_130 : decode cX10_put 130 = .ok (.isub, 1) := by decide +kernel
theorem dX10_put_131 : decode cX10_put 131 = .ok (.iload 7, 2) := by decide +kernel
theorem dX10_put_133 : decode cX10_put 133 = .ok (.isub, 1) := by decide +kernel
theorem dX10_put_134 : decode cX10_put 134 = .ok (.imul, 1) := by decide +kernel
theorem dX10_put_135 : decode cX10_put 135 = .ok (.lushr, 1) := by decide +kernel
theorem dX10_put_136 : decode cX10_put 136 = .ok (.ldc2_w 154, 3) := by decide +kernel
theorem dX10_put_139 : decode cX10_put 139 = .ok (.land, 1) := by decide +kernel
theorem dX10_put_140 : decode cX10_put 140 = .ok (.l2i, 1) := by decide +kernel
theorem dX10_put_141 : decode cX10_put 141 = .ok (.iastore, 1) := by decide +kernel
theorem dX10_put_142 : decode cX10_put 142 = .ok (.iinc 7 1, 3) := by decide +kernel
theorem dX10_put_145 : decode cX10_put 145 = .ok (.goto (-37), 3) := by decide +kernel
theorem dX10_put_148 : decode cX10_put 148 = .ok (.aload_n 0, 1) := by decide +kernel
theorem dX10_put_149 : decode cX10_put 149 = .ok (.dup, 1) := by decide +kernel
theorem dX10_put_150 : decode cX10_put 150 = .ok (.getfield 144, 3) := by decide +kernel
theorem dX10_put_153 : decode cX10_put 153 = .ok (.iload_n 3, 1) := by decide +kernel
theorem dX10_put_154 : decode cX10_put 154 = .ok (.iadd, 1) := by decide +kernel
theorem dX10_put_155 : decode cX10_put 155 = .ok (.putfield 144, 3) := by decide +kernel
theorem dX10_put_158 : decode cX10_put 158 = .ok (.aload_n 0, 1) := by decide +kernel
theorem dX10_put_159 : decode cX10_put 159 = .ok (.getfield 144, 3) := by decide +kernel
theorem dX10_put_162 : decode cX10_put 162 = .ok (.ireturn, 1) := by decide +kernel
theorem dX10_wipe_0 : decode cX10_wipe 0 = .ok (.aload_n 0, 1) := by decide +kernel
theorem dX10_wipe_1 : decode cX10_wipe 1 = .ok (.iconst 0, 1) := by decide +kernel
theorem dX10_wipe_2 : decode cX10_wipe 2 = .ok (.putfield 32, 3) := by decide +kernel
theorem dX10_wipe_5 : decode cX10_wipe 5 = .ok (.aload_n 0, 1) := by decide +kernel
theorem dX10_wipe_6 : decode cX10_wipe 6 = .ok (.getfield 144, 3) := by decide +kernel
theorem dX10_wipe_9 : decode cX10_wipe 9 = .ok (.istore_n 1, 1) := by decide +kernel
theorem dX10_wipe_10 : decode cX10_wipe 10 = .ok (.aload_n 0, 1) := by decide +kernel
theorem dX10_wipe_11 : decode cX10_wipe 11 = .ok (.iconst 0, 1) := by decide +kernel
theorem dX10_wipe_12 : decode cX10_wipe 12 = .ok (.putfield 144, 3) := by decide +kernel
theorem dX10_wipe_15 : decode cX10_wipe 15 = .ok (.iload_n 1, 1) := by decide +kernel
theorem dX10_wipe_16 : decode cX10_wipe 16 = .ok (.ireturn, 1) := by decide +kernel
theorem dX10_sign_0 : decode cX10_sign 0 = .ok (.aload_n 0, 1) := by decide +kernel
theorem dX10_sign_1 : decode cX10_sign 1 = .ok (.getfield 156, 3) := by decide +kernel
theorem dX10_sign_4 : decode cX10_sign 4 = .ok (.aload_n 0, 1) := by decide +kernel
theorem dX10_sign_5 : decode cX10_sign 5 = .ok (.getfield 144, 3) := by decide +kernel
theorem dX10_sign_8 : decode cX10_sign 8 = .ok (.if_icmp .ge 15, 3) := by decide +kernel
theorem dX10_sign_11 : decode cX10_sign 11 = .ok (.aload_n 0, 1) := by decide +kernel
theorem dX10_sign_12 : decode cX10_sign 12 = .ok (.getfield 26, 3) := by decide +kernel
theorem dX10_sign_15 : decode cX10_sign 15 = .ok (.aload_n 0, 1) := by decide +kernel
theorem dX10_sign_16 : decode cX10_sign 16 = .ok (.getfield 156, 3) := by decide +kernel
theorem dX10_sign_19 : decode cX10_sign 19 = .ok (.iaload, 1) := by decide +kernel
theorem dX10_sign_20 : decode cX10_sign 20 = .ok (.goto 4, 3) := by decide +kernel
theorem dX10_sign_23 : decode cX10_sign 23 = .ok (.iconst 0, 1) := by decide +kernel
theorem dX10_sign_24 : decode cX10_sign 24 = .ok (.ireturn, 1) := by decide +kernel
set_option maxRecDepth 20000 in
theorem ggX10_wants_X10_sign : GoodIn wsX10_wants wsX10_sign := goodIn_r _ [7, 2, 8, 9, 10, 11, 12, 13, 14, 15, 16, 17, 18, 19, 20, 21, 22, 23, 24] (by decide +kernel) (by decide +kernel)
set_option maxRecDepth 20000 in
theorem gX10_wants_X10_sign : GoodIn wsX10_wants (wsV RX10 163 RX10 yX10_sign wsX10_sign) := goodIn_app (goodIn_of _ (by decide +kernel)) ggX10_wants_X10_sign
theorem dX10_wants_0 : decode cX10_wants 0 = .ok (.aload_n 0, 1) := by decide +kernel
theorem dX10_wants_1 : decode cX10_wants 1 = .ok (.aload_n 0, 1) := by decide +kernel
theorem dX10_wants_2 : decode cX10_wants 2 = .ok (.getfield 159, 3) := by decide +kernel
theorem dX10_wants_5 : decode cX10_wants 5 = .ok (.ifCond .eq 15, 3) := by decide +kernel
theorem dX10_wants_8 : decode cX10_wants 8 = .ok (.aload_n 0, 1) := by decide +kernel
theorem dX10_wants_9 : decode cX10_wants 9 = .ok (.invokevirtual 163, 3) := by decide +kernel
theorem dX10_wants_12 : decode cX10_wants 12 = .ok (.iload_n 1, 1) := by decide +kernel
theorem dX10_wants_13 : decode cX10_wants 13 = .ok (.if_icmp .ne 7, 3) := by decide +kernel
theorem dX10_wants_16 : decode cX10_wants 16 = .ok (.iconst 1, 1) := by decide +kernel
theorem dX10_wants_17 : decode cX10_wants 17 = .ok (.goto 4, 3) := by decide +kernel
theorem dX10_wants_20 : decode cX10_wants 20 = .ok (.iconst 0, 1) := by decide +kernel
theorem dX10_wants_21 : decode cX10_wants 21 = .ok (.putfield 159, 3) := by decide +kernel
theorem dX10_wants_24 : decode cX10_wants 24 = .ok (.aload_n 0, 1) := by decide +kernel
theorem dX10_wants_25 : decode cX10_wants 25 = .ok (.dup, 1) := by decide +kernel
theorem dX10_wants_26 : decode cX10_wants 26 = .ok (.getfield 156, 3) := by decide +kernel
theorem dX10_wants_29 : decode cX10_wants 29 = .ok (.aload_n 0, 1) := by decide +kernel
theorem dX10_wants_30 : decode cX10_wants 30 = .ok (.getfield 159, 3) := by decide +kernel
theorem dX10_wants_33 : decode cX10_wants 33 = .ok (.ifCond .eq 7, 3) := by decide +kernel
theorem dX10_wants_36 : decode cX10_wants 36 = .ok (.iconst 1, 1) := by decide +kernel
theorem dX10_wants_37 : decode cX10_wants 37 = .ok (.goto 4, 3) := by decide +kernel
theorem dX10_wants_40 : decode cX10_wants 40 = .ok (.iconst 0, 1) := by decide +kernel
theorem dX10_wants_41 : decode cX10_wants 41 = .ok (.iadd, 1) := by decide +kernel
theorem dX10_wants_42 : decode cX10_wants 42 = .ok (.putfield 156, 3) := by decide +kernel
theorem dX10_wants_45 : decode cX10_wants 45 = .ok (.return_, 1) := by decide +kernel
set_option maxRecDepth 20000 in
theorem ggX10_digit_X10_sign : GoodIn wsX10_digit wsX10_sign := goodIn_r _ [7, 2, 8, 9, 13, 14, 15, 16, 17, 18, 19, 20, 21, 22, 23, 24, 25, 26, 27] (by decide +kernel) (by decide +kernel)
set_option maxRecDepth 20000 in
theorem gX10_digit_X10_sign : GoodIn wsX10_digit (wsV RX10 163 RX10 yX10_sign wsX10_sign) := goodIn_app (goodIn_of _ (by decide +kernel)) ggX10_digit_X10_sign
set_option maxRecDepth 20000 in
theorem ggX10_digit_X10_in : GoodIn wsX10_digit wsX10_in := goodIn_r _ [12] (by decide +kernel) (by decide +kernel)
set_option maxRecDepth 20000 in
theorem gX10_digit_X10_in : GoodIn wsX10_digit (va_wsS RX10 92 yX10_in wsX10_in) := goodIn_app (goodIn_of _ (by decide +kernel)) ggX10_digit_X10_in
theorem dX10_digit_0 : decode cX10_digit 0 = .ok (.aload_n 0, 1) := by decide +kernel
theorem dX10_digit_1 : decode cX10_digit 1 = .ok (.aload_n 0, 1) := by decide +kernel
theorem dX10_digit_2 : decode cX10_digit 2 = .ok (.getfield 159, 3) := by decide +kernel
theorem dX10_digit_5 : decode cX10_digit 5 = .ok (.ifCond .eq 21, 3) := by decide +kernel
theorem dX10_digit_8 : decode cX10_digit 8 = .ok (.aload_n 0, 1) := by decide +kernel
theorem dX10_digit_9 : decode cX10_digit 9 = .ok (.invokevirtual 163, 3) := by decide +kernel
theorem dX10_digit_12 : decode cX10_digit 12 = .ok (.bipush 49, 2) := by decide +kernel
theorem dX10_digit_14 : decode cX10_digit 14 = .ok (.bipush 57, 2) := by decide +kernel
theorem dX10_digit_16 : decode cX10_digit 16 = .ok (.invokestatic 92, 3) := by decide +kernel
theorem dX10_digit_19 : decode cX10_digit 19 = .ok (.ifCond .eq 7, 3) := by decide +kernel
theorem dX10_digit_22 : decode cX10_digit 22 = .ok (.iconst 1, 1) := by decide +kernel
theorem dX10_digit_23 : decode cX10_digit 23 = .ok (.goto 4, 3) := by decide +kernel
theorem dX10_digit_26 : decode cX10_digit 26 = .ok (.iconst 0, 1) := by decide +kernel
theorem dX10_digit_27 : decode cX10_digit 27 = .ok (.putfield 159, 3) := by decide +kernel
theorem dX10_digit_30 : decode cX10_digit 30 = .ok (.aload_n 0, 1) := by decide +kernel
theorem dX10_digit_31 : decode cX10_digit 31 = .ok (.invokevirtual 163, 3) := by decide +kernel
theorem dX10_digit_34 : decode cX10_digit 34 = .ok (.bipush 48, 2) := by decide +kernel
theorem dX10_digit_36 : decode cX10_digit 36 = .ok (.isub, 1) := by decide +kernel
theorem dX10_digit_37 : decode cX10_digit 37 = .ok (.istore_n 1, 1) := by decide +kernel
theorem dX10_digit_38 : decode cX10_digit 38 = .ok (.aload_n 0, 1) := by decide +kernel
theorem dX10_digit_39 : decode cX10_digit 39 = .ok (.dup, 1) := by decide +kernel
theorem dX10_digit_40 : decode cX10_digit 40 = .ok (.getfield 156, 3) := by decide +kernel
theorem dX10_digit_43 : decode cX10_digit 43 = .ok (.aload_n 0, 1) := by decide +kernel
theorem dX10_digit_44 : decode cX10_digit 44 = .ok (.getfield 159, 3) := by decide +kernel
theorem dX10_digit_47 : decode cX10_digit 47 = .ok (.ifCond .eq 7, 3) := by decide +kernel
theorem dX10_digit_50 : decode cX10_digit 50 = .ok (.iconst 1, 1) := by decide +kernel
theorem dX10_digit_51 : decode cX10_digit 51 = .ok (.goto 4, 3) := by decide +kernel
theorem dX10_digit_54 : decode cX10_digit 54 = .ok (.iconst 0, 1) := by decide +kernel
theorem dX10_digit_55 : decode cX10_digit 55 = .ok (.iadd, 1) := by decide +kernel
theorem dX10_digit_56 : decode cX10_digit 56 = .ok (.putfield 156, 3) := by decide +kernel
theorem dX10_digit_59 : decode cX10_digit 59 = .ok (.iload_n 1, 1) := by decide +kernel
theorem dX10_digit_60 : decode cX10_digit 60 = .ok (.ireturn, 1) := by decide +kernel
set_option maxRecDepth 20000 in
theorem ggX10_number_X10_sign : GoodIn wsX10_number wsX10_sign := goodIn_r _ [7, 2, 8, 9, 13, 14, 15, 16, 17, 18, 19, 20, 21, 22, 23, 24, 25, 26, 27] (by decide +kernel) (by decide +kernel)
set_option maxRecDepth 20000 in
theorem gX10_number_X10_sign : GoodIn wsX10_number (wsV RX10 163 RX10 yX10_sign wsX10_sign) := goodIn_app (goodIn_of _ (by decide +kernel)) ggX10_number_X10_sign
set_option maxRecDepth 20000 in
theorem ggX10_number_X10_in : GoodIn wsX10_number wsX10_in := goodIn_r _ [12] (by decide +kernel) (by decide +kernel)
set_option maxRecDepth 20000 in
theorem gX10_number_X10_in : GoodIn wsX10_number (va_wsS RX10 92 yX10_in wsX10_in) := goodIn_app (goodIn_of _ (by decide +kernel)) ggX10_number_X10_in
theorem dX10_number_0 : decode cX10_number 0 = .ok (.aload_n 0, 1) := by decide +kernel
theorem dX10_number_1 : decode cX10_number 1 = .ok (.aload_n 0, 1) := by decide +kernel
theorem dX10_number_2 : decode cX10_number 2 = .ok (.getfield 159, 3) := by decide +kernel
theorem dX10_number_5 : decode cX10_number 5 = .ok (.ifCond .eq 21, 3) := by decide +kernel
theorem dX10_number_8 : decode cX10_number 8 = .ok (.aload_n 0, 1) := by decide +kernel
theorem dX10_number_9 : decode cX10_number 9 = .ok (.invokevirtual 163, 3) := by decide +kernel
theorem dX10_number_12 : decode cX10_number 12 = .ok (.bipush 48, 2) := by decide +kernel
theorem dX10_number_14 : decode cX10_number 14 = .ok (.bipush 57, 2) := by decide +kernel
theorem dX10_number_16 : decode cX10_number 16 = .ok (.invokestatic 92, 3) := by decide +kernel
theorem dX10_number_19 : decode cX10_number 19 = .ok (.ifCond .eq 7, 3) := by decide +kernel
theorem dX10_number_22 : decode cX10_number 22 = .ok (.iconst 1, 1) := by decide +kernel
theorem dX10_number_23 : decode cX10_number 23 = .ok (.goto 4, 3) := by decide +kernel
theorem dX10_number_26 : decode cX10_number 26 = .ok (.iconst 0, 1) := by decide +kernel
theorem dX10_number_27 : decode cX10_number 27 = .ok (.putfield 159, 3) := by decide +kernel
theorem dX10_number_30 : decode cX10_number 30 = .ok (.aload_n 0, 1) := by decide +kernel
theorem dX10_number_31 : decode cX10_number 31 = .ok (.invokevirtual 163, 3) := by decide +kernel
theorem dX10_number_34 : decode cX10_number 34 = .ok (.bipush 48, 2) := by decide +kernel
theorem dX10_number_36 : decode cX10_number 36 = .ok (.isub, 1) := by decide +kernel
theorem dX10_number_37 : decode cX10_number 37 = .ok (.istore_n 1, 1) := by decide +kernel
theorem dX10_number_38 : decode cX10_number 38 = .ok (.aload_n 0, 1) := by decide +kernel
theorem dX10_number_39 : decode cX10_number 39 = .ok (.dup, 1) := by decide +kernel
theorem dX10_number_40 : decode cX10_number 40 = .ok (.getfield 156, 3) := by decide +kernel
theorem dX10_number_43 : decode cX10_number 43 = .ok (.aload_n 0, 1) := by decide +kernel
theorem dX10_number_44 : decode cX10_number 44 = .ok (.getfield 159, 3) := by decide +kernel
theorem dX10_number_47 : decode cX10_number 47 = .ok (.ifCond .eq 7, 3) := by decide +kernel
theorem dX10_number_50 : decode cX10_number 50 = .ok (.iconst 1, 1) := by decide +kernel
theorem dX10_number_51 : decode cX10_number 51 = .ok (.goto 4, 3) := by decide +kernel
theorem dX10_number_54 : decode cX10_number 54 = .ok (.iconst 0, 1) := by decide +kernel
theorem dX10_number_55 : decode cX10_number 55 = .ok (.iadd, 1) := by decide +kernel
theorem dX10_number_56 : decode cX10_number 56 = .ok (.putfield 156, 3) := by decide +kernel
theorem dX10_number_59 : decode cX10_number 59 = .ok (.iconst 1, 1) := by decide +kernel
theorem dX10_number_60 : decode cX10_number 60 = .ok (.istore_n 2, 1) := by decide +kernel
theorem dX10_number_61 : decode cX10_number 61 = .ok (.iload_n 2, 1) := by decide +kernel
theorem dX10_number_62 : decode cX10_number 62 = .ok (.iconst 4, 1) := by decide +kernel
theorem dX10_number_63 : decode cX10_number 63 = .ok (.if_icmp .ge 57, 3) := by decide +kernel
theorem dX10_number_66 : decode cX10_number 66 = .ok (.aload_n 0, 1) := by decide +kernel
theorem dX10_number_67 : decode cX10_number 67 = .ok (.getfield 159, 3) := by decide +kernel
theorem dX10_number_70 : decode cX10_number 70 = .ok (.ifCond .eq 50, 3) := by decide +kernel
theorem dX10_number_73 : decode cX10_number 73 = .ok (.iload_n 1, 1) := by decide +kernel
theorem dX10_number_74 : decode cX10_number 74 = .ok (.ifCond .le 46, 3) := by decide +kernel
theorem dX10_number_77 : decode cX10_number 77 = .ok (.aload_n 0, 1) := by decide +kernel
theorem dX10_number_78 : decode cX10_number 78 = .ok (.invokevirtual 163, 3) := by decide +kernel
theorem dX10_number_81 : decode cX10_number 81 = .ok (.bipush 48, 2) := by decide +kernel
theorem dX10_number_83 : decode cX10_number 83 = .ok (.bipush 57, 2) := by decide +kernel
theorem dX10_number_85 : decode cX10_number 85 = .ok (.invokestatic 92, 3) := by decide +kernel
theorem dX10_number_88 : decode cX10_number 88 = .ok (.ifCond .eq 32, 3) := by decide +kernel
theorem dX10_number_91 : decode cX10_number 91 = .ok (.bipush 10, 2) := by decide +kernel
theorem dX10_number_93 : decode cX10_number 93 = .ok (.iload_n 1, 1) := by decide +kernel
theorem dX10_number_94 : decode cX10_number 94 = .ok (.imul, 1) := by decide +kernel
theorem dX10_number_95 : decode cX10_number 95 = .ok (.aload_n 0, 1) := by decide +kernel
theorem dX10_number_96 : decode cX10_number 96 = .ok (.invokevirtual 163, 3) := by decide +kernel
theorem dX10_number_99 : decode cX10_number 99 = .ok (.iadd, 1) := by decide +kernel
theorem dX10_number_100 : decode cX10_number 100 = .ok (.bipush 48, 2) := by decide +kernel
theorem dX10_number_102 : decode cX10_number 102 = .ok (.isub, 1) := by decide +kernel
theorem dX10_number_103 : decode cX10_number 103 = .ok (.istore_n 1, 1) := by decide +kernel
theorem dX10_number_104 : decode cX10_number 104 = .ok (.aload_n 0, 1) := by decide +kernel
theorem dX10_number_105 : decode cX10_number 105 = .ok (.dup, 1) := by decide +kernel
theorem dX10_number_106 : decode cX10_number 106 = .ok (.getfield 156, 3) := by decide +kernel
theorem dX10_number_109 : decode cX10_number 109 = .ok (.iconst 1, 1) := by decide +kernel
theorem dX10_number_110 : decode cX10_number 110 = .ok (.iadd, 1) := by decide +kernel
theorem dX10_number_111 : decode cX10_number 111 = .ok (.putfield 156, 3) := by decide +kernel
theorem dX10_number_114 : decode cX10_number 114 = .ok (.iinc 2 1, 3) := by decide +kernel
theorem dX10_number_117 : decode cX10_number 117 = .ok (.goto (-56), 3) := by decide +kernel
theorem dX10_number_120 : decode cX10_number 120 = .ok (.iload_n 1, 1) := by decide +kernel
theorem dX10_number_121 : decode cX10_number 121 = .ok (.ireturn, 1) := by decide +kernel
set_option maxRecDepth 20000 in
theorem ggX10_next_X10_wants : GoodIn wsX10_next wsX10_wants := goodIn_r _ [7, 8, 9, 10, 11, 12, 6, 13, 14, 15, 23, 24, 25, 26, 27, 28, 29, 30, 31, 32, 33, 34, 35, 36, 37] (by decide +kernel) (by decide +kernel)
set_option maxRecDepth 20000 in
theorem gX10_next_X10_wants : GoodIn wsX10_next (wsV RX10 166 RX10 yX10_wants wsX10_wants) := goodIn_app (goodIn_of _ (by decide +kernel)) ggX10_next_X10_wants
set_option maxRecDepth 20000 in
theorem ggX10_next_X10_number : GoodIn wsX10_next wsX10_number := goodIn_r _ [19, 8, 9, 10, 11, 12, 6, 13, 14, 15, 20, 21, 22, 23, 24, 25, 26, 27, 28, 29, 30, 31, 32, 33, 34, 35, 36, 37] (by decide +kernel) (by decide +kernel)
set_option maxRecDepth 20000 in
theorem gX10_next_X10_number : GoodIn wsX10_next (wsV RX10 172 RX10 yX10_number wsX10_number) := goodIn_app (goodIn_of _ (by decide +kernel)) ggX10_next_X10_number
theorem dX10_next_0 : decode cX10_next 0 = .ok (.aload_n 0, 1) := by decide +kernel
theorem dX10_next_1 : decode cX10_next 1 = .ok (.iload_n 2, 1) := by decide +kernel
theorem dX10_next_2 : decode cX10_next 2 = .ok (.invokevirtual 166, 3) := by decide +kernel
theorem dX10_next_5 : decode cX10_next 5 = .ok (.aload_n 0, 1) := by decide +kernel
theorem dX10_next_6 : decode cX10_next 6 = .ok (.getfield 29, 3) := by decide +kernel
theorem dX10_next_9 : decode cX10_next 9 = .ok (.bipush 7, 2) := by decide +kernel
theorem dX10_next_11 : decode cX10_next 11 = .ok (.aload_n 0, 1) := by decide +kernel
theorem dX10_next_12 : decode cX10_next 12 = .ok (.getfield 169, 3) := by decide +kernel
theorem dX10_next_15 : decode cX10_next 15 = .ok (.imul, 1) := by decide +kernel
theorem dX10_next_16 : decode cX10_next 16 = .ok (.iload_n 1, 1) := by decide +kernel
theorem dX10_next_17 : decode cX10_next 17 = .ok (.iadd, 1) := by decide +kernel
theorem dX10_next_18 : decode cX10_next 18 = .ok (.aload_n 0, 1) := by decide +kernel
theorem dX10_next_19 : decode cX10_next 19 = .ok (.invokevirtual 172, 3) := by decide +kernel
theorem dX10_next_22 : decode cX10_next 22 = .ok (.iastore, 1) := by decide +kernel
theorem dX10_next_23 : decode cX10_next 23 = .ok (.return_, 1) := by decide +kernel
set_option maxRecDepth 20000 in
theorem ggX10_readsOrder_X10_sign : GoodIn wsX10_readsOrder wsX10_sign := goodIn_r _ [9, 3, 10, 11, 31, 32, 33, 34, 35, 36, 37, 38, 39, 40, 41, 42, 43, 44, 45] (by decide +kernel) (by decide +kernel)
set_option maxRecDepth 20000 in
theorem gX10_readsOrder_X10_sign : GoodIn wsX10_readsOrder (wsV RX10 163 RX10 yX10_sign wsX10_sign) := goodIn_app (goodIn_of _ (by decide +kernel)) ggX10_readsOrder_X10_sign
set_option maxRecDepth 20000 in
theorem ggX10_readsOrder_X10_digit : GoodIn wsX10_readsOrder wsX10_digit := goodIn_r _ [15, 2, 3, 5, 6, 7, 8, 9, 10, 11, 16, 17, 18, 31, 32, 33, 34, 35, 36, 37, 38, 39, 40, 41, 42, 43, 44, 45] (by decide +kernel) (by decide +kernel)
set_option maxRecDepth 20000 in
theorem gX10_readsOrder_X10_digit : GoodIn wsX10_readsOrder (wsV RX10 175 RX10 yX10_digit wsX10_digit) := goodIn_app (goodIn_of _ (by decide +kernel)) ggX10_readsOrder_X10_digit
set_option maxRecDepth 20000 in
theorem ggX10_readsOrder_X10_number : GoodIn wsX10_readsOrder wsX10_number := goodIn_r _ [22, 2, 3, 5, 6, 7, 8, 9, 10, 11, 16, 17, 18, 31, 32, 33, 34, 35, 36, 37, 38, 39, 40, 41, 42, 43, 44, 45] (by decide +kernel) (by decide +kernel)
set_option maxRecDepth 20000 in
theorem gX10_readsOrder_X10_number : GoodIn wsX10_readsOrder (wsV RX10 172 RX10 yX10_number wsX10_number) := goodIn_app (goodIn_of _ (by decide +kernel)) ggX10_readsOrder_X10_number
set_option maxRecDepth 20000 in
theorem ggX10_readsOrder_X10_wants : GoodIn wsX10_readsOrder wsX10_wants := goodIn_r _ [26, 2, 3, 5, 6, 7, 8, 9, 10, 11, 31, 32, 33, 34, 35, 36, 37, 38, 39, 40, 41, 42, 43, 44, 45] (by decide +kernel) (by decide +kernel)
set_option maxRecDepth 20000 in
theorem gX10_readsOrder_X10_wants : GoodIn wsX10_readsOrder (wsV RX10 166 RX10 yX10_wants wsX10_wants) := goodIn_app (goodIn_of _ (by decide +kernel)) ggX10_readsOrder_X10_wants
set_option maxRecDepth 20000 in
theorem ggX10_readsOrder_X10_next : GoodIn wsX10_readsOrder wsX10_next := goodIn_r _ [30, 4, 1, 23, 24, 25, 8, 26, 2, 3, 5, 6, 7, 9, 10, 11, 19, 20, 21, 22, 16, 17, 18, 31, 32, 33, 34, 35, 36, 37, 38, 39, 40, 41, 42, 43, 44, 45] (by decide +kernel) (by decide +kernel)
set_option maxRecDepth 20000 in
theorem gX10_readsOrder_X10_next : GoodIn wsX10_readsOrder (wsV RX10 178 RX10 yX10_next wsX10_next) := goodIn_app (goodIn_of _ (by decide +kernel)) ggX10_readsOrder_X10_next
theorem dX10_readsOrder_0 : decode cX10_readsOrder 0 = .ok (.bipush 7, 2) := by decide +kernel
theorem dX10_readsOrder_2 : decode cX10_readsOrder 2 = .ok (.aload_n 0, 1) := by decide +kernel
theorem dX10_readsOrder_3 : decode cX10_readsOrder 3 = .ok (.getfield 169, 3) := by decide +kernel
theorem dX10_readsOrder_6 : decode cX10_readsOrder 6 = .ok (.imul, 1) := by decide +kernel
theorem dX10_readsOrder_7 : decode cX10_readsOrder 7 = .ok (.istore_n 1, 1) := by decide +kernel
theorem dX10_readsOrder_8 : decode cX10_readsOrder 8 = .ok (.aload_n 0, 1) := by decide +kernel
theorem dX10_readsOrder_9 : decode cX10_readsOrder 9 = .ok (.invokevirtual 163, 3) := by decide +kernel
theorem dX10_readsOrder_12 : decode cX10_readsOrder 12 = .ok (.istore_n 2, 1) := by decide +kernel
theorem dX10_readsOrder_13 : decode cX10_readsOrder 13 = .ok (.iload_n 2, 1) := by decide +kernel
theorem dX10_readsOrder_14 : decode cX10_readsOrder 14 = .ok (.bipush 102, 2) := by decide +kernel
theorem dX10_readsOrder_16 : decode cX10_readsOrder 16 = .ok (.if_icmp .eq 33, 3) := by decide +kernel
theorem dX10_readsOrder_19 : decode cX10_readsOrder 19 = .ok (.iload_n 2, 1) := by decide +kernel
theorem dX10_readsOrder_20 : decode cX10_readsOrder 20 = .ok (.bipush 99, 2) := by decide +kernel
theorem dX10_readsOrder_22 : decode cX10_readsOrder 22 = .ok (.if_icmp .eq 27, 3) := by decide +kernel
theorem dX10_readsOrder_25 : decode cX10_readsOrder 25 = .ok (.iload_n 2, 1) := by decide +kernel
theorem dX10_readsOrder_26 : decode cX10_readsOrder 26 = .ok (.bipush 103, 2) := by decide +kernel
theorem dX10_readsOrder_28 : decode cX10_readsOrder 28 = .ok (.if_icmp .eq 21, 3) := by decide +kernel
theorem dX10_readsOrder_31 : decode cX10_readsOrder 31 = .ok (.iload_n 2, 1) := by decide +kernel
theorem dX10_readsOrder_32 : decode cX10_readsOrder 32 = .ok (.bipush 100, 2) := by decide +kernel
theorem dX10_readsOrder_34 : decode cX10_readsOrder 34 = .ok (.if_icmp .eq 15, 3) := by decide +kernel
theorem dX10_readsOrder_37 : decode cX10_readsOrder 37 = .ok (.iload_n 2, 1) := by decide +kernel
theorem dX10_readsOrder_38 : decode cX10_readsOrder 38 = .ok (.bipush 109, 2) := by decide +kernel
theorem dX10_readsOrder_40 : decode cX10_readsOrder 40 = .ok (.if_icmp .eq 9, 3) := by decide +kernel
theorem dX10_readsOrder_43 : decode cX10_readsOrder 43 = .ok (.iload_n 2, 1) := by decide +kernel
theorem dX10_readsOrder_44 : decode cX10_readsOrder 44 = .ok (.bipush 120, 2) := by decide +kernel
theorem dX10_readsOrder_46 : decode cX10_readsOrder 46 = .ok (.if_icmp .ne 7, 3) := by decide +kernel
theorem dX10_readsOrder_49 : decode cX10_readsOrder 49 = .ok (.iconst 1, 1) := by decide +kernel
theorem dX10_readsOrder_50 : decode cX10_readsOrder 50 = .ok (.goto 4, 3) := by decide +kernel
theorem dX10_readsOrder_53 : decode cX10_readsOrder 53 = .ok (.iconst 0, 1) := by decide +kernel
theorem dX10_readsOrder_54 : decode cX10_readsOrder 54 = .ok (.istore_n 3, 1) := by decide +kernel
theorem dX10_readsOrder_55 : decode cX10_readsOrder 55 = .ok (.aload_n 0, 1) := by decide +kernel
theorem dX10_readsOrder_56 : decode cX10_readsOrder 56 = .ok (.aload_n 0, 1) := by decide +kernel
theorem dX10_readsOrder_57 : decode cX10_readsOrder 57 = .ok (.getfield 159, 3) := by decide +kernel
theorem dX10_readsOrder_60 : decode cX10_readsOrder 60 = .ok (.ifCond .eq 11, 3) := by decide +kernel
theorem dX10_readsOrder_63 : decode cX10_readsOrder 63 = .ok (.iload_n 3, 1) := by decide +kernel
theorem dX10_readsOrder_64 : decode cX10_readsOrder 64 = .ok (.ifCond .eq 7, 3) := by decide +kernel
theorem dX10_readsOrder_67 : decode cX10_readsOrder 67 = .ok (.iconst 1, 1) := by decide +kernel
theorem dX10_readsOrder_68 : decode cX10_readsOrder 68 = .ok (.goto 4, 3) := by decide +kernel
theorem dX10_readsOrder_71 : decode cX10_readsOrder 71 = .ok (.iconst 0, 1) := by decide +kernel
theorem dX10_readsOrder_72 : decode cX10_readsOrder 72 = .ok (.putfield 159, 3) := by decide +kernel
theorem dX10_readsOrder_75 : decode cX10_readsOrder 75 = .ok (.aload_n 0, 1) := by decide +kernel
theorem dX10_readsOrder_76 : decode cX10_readsOrder 76 = .ok (.dup, 1) := by decide +kernel
theorem dX10_readsOrder_77 : decode cX10_readsOrder 77 = .ok (.getfield 156, 3) := by decide +kernel
theorem dX10_readsOrder_80 : decode cX10_readsOrder 80 = .ok (.aload_n 0, 1) := by decide +kernel
theorem dX10_readsOrder_81 : decode cX10_readsOrder 81 = .ok (.getfield 159, 3) := by decide +kernel
theorem dX10_readsOrder_84 : decode cX10_readsOrder 84 = .ok (.ifCond .eq 7, 3) := by decide +kernel
theorem dX10_readsOrder_87 : decode cX10_readsOrder 87 = .ok (.iconst 1, 1) := by decide +kernel
theorem dX10_readsOrder_88 : decode cX10_readsOrder 88 = .ok (.goto 4, 3) := by decide +kernel
theorem dX10_readsOrder_91 : decode cX10_readsOrder 91 = .ok (.iconst 0, 1) := by decide +kernel
theorem dX10_readsOrder_92 : decode cX10_readsOrder 92 = .ok (.iadd, 1) := by decide +kernel
theorem dX10_readsOrder_93 : decode cX10_readsOrder 93 = .ok (.putfield 156, 3) := by decide +kernel
theorem dX10_readsOrder_96 : decode cX10_readsOrder 96 = .ok (.aload_n 0, 1) := by decide +kernel
theorem dX10_readsOrder_97 : decode cX10_readsOrder 97 = .ok (.getfield 29, 3) := by decide +kernel
theorem dX10_readsOrder_100 : decode cX10_readsOrder 100 = .ok (.iload_n 1, 1) := by decide +kernel
theorem dX10_readsOrder_101 : decode cX10_readsOrder 101 = .ok (.iload_n 2, 1) := by decide +kernel
theorem dX10_readsOrder_102 : decode cX10_readsOrder 102 = .ok (.iastore, 1) := by decide +kernel
theorem dX10_readsOrder_103 : decode cX10_readsOrder 103 = .ok (.iload_n 2, 1) := by decide +kernel
theorem dX10_readsOrder_104 : decode cX10_readsOrder 104 = .ok (.bipush 103, 2) := by decide +kernel
theorem dX10_readsOrder_106 : decode cX10_readsOrder 106 = .ok (.if_icmp .ne 18, 3) := by decide +kernel
theorem dX10_readsOrder_109 : decode cX10_readsOrder 109 = .ok (.aload_n 0, 1) := by decide +kernel
theorem dX10_readsOrder_110 : decode cX10_readsOrder 110 = .ok (.getfield 29, 3) := by decide +kernel
theorem dX10_readsOrder_113 : decode cX10_readsOrder 113 = .ok (.iload_n 1, 1) := by decide +kernel
theorem dX10_readsOrder_114 : decode cX10_readsOrder 114 = .ok (.iconst 1, 1) := by decide +kernel
theorem dX10_readsOrder_115 : decode cX10_readsOrder 115 = .ok (.iadd, 1) := by decide +kernel
theorem dX10_readsOrder_116 : decode cX10_readsOrder 116 = .ok (.aload_n 0, 1) := by decide +kernel
theorem dX10_readsOrder_117 : decode cX10_readsOrder 117 = .ok (.invokevirtual 175, 3) := by decide +kernel
theorem dX10_readsOrder_120 : decode cX10_readsOrder 120 = .ok (.iastore, 1) := by decide +kernel
theorem dX10_readsOrder_121 : decode cX10_readsOrder 121 = .ok (.goto 21, 3) := by decide +kernel
theorem dX10_readsOrder_124 : decode cX10_readsOrder 124 = .ok (.iload_n 2, 1) := by decide +kernel
theorem dX10_readsOrder_125 : decode cX10_readsOrder 125 = .ok (.bipush 109, 2) := by decide +kernel
theorem dX10_readsOrder_127 : decode cX10_readsOrder 127 = .ok (.if_icmp .eq 15, 3) := by decide +kernel
theorem dX10_readsOrder_130 : decode cX10_readsOrder 130 = .ok (.aload_n 0, 1) := by decide +kernel
theorem dX10_readsOrder_131 : decode cX10_readsOrder 131 = .ok (.getfield 29, 3) := by decide +kernel
theorem dX10_readsOrder_134 : decode cX10_readsOrder 134 = .ok (.iload_n 1, 1) := by decide +kernel
theorem dX10_readsOrder_135 : decode cX10_readsOrder 135 = .ok (.iconst 1, 1) := by decide +kernel
theorem dX10_readsOrder_136 : decode cX10_readsOrder 136 = .ok (.iadd, 1) := by decide +kernel
theorem dX10_readsOrder_137 : decode cX10_readsOrder 137 = .ok (.aload_n 0, 1) := by decide +kernel
theorem dX10_readsOrder_138 : decode cX10_readsOrder 138 = .ok (.invokevirtual 172, 3) := by decide +kernel
theorem dX10_readsOrder_141 : decode cX10_readsOrder 141 = .ok (.iastore, 1) := by decide +kernel
theorem dX10_readsOrder_142 : decode cX10_readsOrder 142 = .ok (.iload_n 2, 1) := by decide +kernel
theorem dX10_readsOrder_143 : decode cX10_readsOrder 143 = .ok (.bipush 102, 2) := by decide +kernel
theorem dX10_readsOrder_145 : decode cX10_readsOrder 145 = .ok (.if_icmp .ne 31, 3) := by decide +kernel
theorem dX10_readsOrder_148 : decode cX10_readsOrder 148 = .ok (.aload_n 0, 1) := by decide +kernel
theorem dX10_readsOrder_149 : decode cX10_readsOrder 149 = .ok (.bipush 42, 2) := by decide +kernel
theorem dX10_readsOrder_151 : decode cX10_readsOrder 151 = .ok (.invokevirtual 166, 3) := by decide +kernel
theorem dX10_readsOrder_154 : decode cX10_readsOrder 154 = .ok (.aload_n 0, 1) := by decide +kernel
theorem dX10_readsOrder_155 : decode cX10_readsOrder 155 = .ok (.getfield 29, 3) := by decide +kernel
theorem dX10_readsOrder_158 : decode cX10_readsOrder 158 = .ok (.iload_n 1, 1) := by decide +kernel
theorem dX10_readsOrder_159 : decode cX10_readsOrder 159 = .ok (.iconst 2, 1) := by decide +kernel
theorem dX10_readsOrder_160 : decode cX10_readsOrder 160 = .ok (.iadd, 1) := by decide +kernel
theorem dX10_readsOrder_161 : decode cX10_readsOrder 161 = .ok (.aload_n 0, 1) := by decide +kernel
theorem dX10_readsOrder_162 : decode cX10_readsOrder 162 = .ok (.invokevirtual 175, 3) := by decide +kernel
theorem dX10_readsOrder_165 : decode cX10_readsOrder 165 = .ok (.iastore, 1) := by decide +kernel
theorem dX10_readsOrder_166 : decode cX10_readsOrder 166 = .ok (.aload_n 0, 1) := by decide +kernel
theorem dX10_readsOrder_167 : decode cX10_readsOrder 167 = .ok (.iconst 3, 1) := by decide +kernel
theorem dX10_readsOrder_168 : decode cX10_readsOrder 168 = .ok (.bipush 43, 2) := by decide +kernel
theorem dX10_readsOrder_170 : decode cX10_readsOrder 170 = .ok (.invokevirtual 178, 3) := by decide +kernel
theorem dX10_readsOrder_173 : decode cX10_readsOrder 173 = .ok (.goto 45, 3) := by decide +kernel
theorem dX10_readsOrder_176 : decode cX10_readsOrder 176 = .ok (.iload_n 2, 1) := by decide +kernel
theorem dX10_readsOrder_177 : decode cX10_readsOrder 177 = .ok (.bipush 99, 2) := by decide +kernel
theorem dX10_readsOrder_179 : decode cX10_readsOrder 179 = .ok (.if_icmp .ne 39, 3) := by decide +kernel
theorem dX10_readsOrder_182 : decode cX10_readsOrder 182 = .ok (.aload_n 0, 1) := by decide +kernel
theorem dX10_readsOrder_183 : decode cX10_readsOrder 183 = .ok (.iconst 2, 1) := by decide +kernel
theorem dX10_readsOrder_184 : decode cX10_readsOrder 184 = .ok (.bipush 58, 2) := by decide +kernel
theorem dX10_readsOrder_186 : decode cX10_readsOrder 186 = .ok (.invokevirtual 178, 3) := by decide +kernel
theorem dX10_readsOrder_189 : decode cX10_readsOrder 189 = .ok (.aload_n 0, 1) := by decide +kernel
theorem dX10_readsOrder_190 : decode cX10_readsOrder 190 = .ok (.iconst 3, 1) := by decide +kernel
theorem dX10_readsOrder_191 : decode cX10_readsOrder 191 = .ok (.bipush 45, 2) := by decide +kernel
theorem dX10_readsOrder_193 : decode cX10_readsOrder 193 = .ok (.invokevirtual 178, 3) := by decide +kernel
theorem dX10_readsOrder_196 : decode cX10_readsOrder 196 = .ok (.aload_n 0, 1) := by decide +kernel
theorem dX10_readsOrder_197 : decode cX10_readsOrder 197 = .ok (.iconst 4, 1) := by decide +kernel
theorem dX10_readsOrder_198 : decode cX10_readsOrder 198 = .ok (.bipush 47, 2) := by decide +kernel
theorem dX10_readsOrder_200 : decode cX10_readsOrder 200 = .ok (.invokevirtual 178, 3) := by decide +kernel
theorem dX10_readsOrder_203 : decode cX10_readsOrder 203 = .ok (.aload_n 0, 1) := by decide +kernel
theorem dX10_readsOrder_204 : decode cX10_readsOrder 204 = .ok (.iconst 5, 1) := by decide +kernel
theorem dX10_readsOrder_205 : decode cX10_readsOrder 205 = .ok (.bipush 45, 2) := by decide +kernel
theorem dX10_readsOrder_207 : decode cX10_readsOrder 207 = .ok (.invokevirtual 178, 3) := by decide +kernel
theorem dX10_readsOrder_210 : decode cX10_readsOrder 210 = .ok (.aload_n 0, 1) := by decide +kernel
theorem dX10_readsOrder_211 : decode cX10_readsOrder 211 = .ok (.bipush 6, 2) := by decide +kernel
theorem dX10_readsOrder_213 : decode cX10_readsOrder 213 = .ok (.bipush 36, 2) := by decide +kernel
theorem dX10_readsOrder_215 : decode cX10_readsOrder 215 = .ok (.invokevirtual 178, 3) := by decide +kernel
theorem dX10_readsOrder_218 : decode cX10_readsOrder 218 = .ok (.aload_n 0, 1) := by decide +kernel
theorem dX10_readsOrder_219 : decode cX10_readsOrder 219 = .ok (.dup, 1) := by decide +kernel
theorem dX10_readsOrder_220 : decode cX10_readsOrder 220 = .ok (.getfield 169, 3) := by decide +kernel
theorem dX10_readsOrder_223 : decode cX10_readsOrder 223 = .ok (.aload_n 0, 1) := by decide +kernel
theorem dX10_readsOrder_224 : decode cX10_readsOrder 224 = .ok (.getfield 159, 3) := by decide +kernel
theorem dX10_readsOrder_227 : decode cX10_readsOrder 227 = .ok (.ifCond .eq 7, 3) := by decide +kernel
theorem dX10_readsOrder_230 : decode cX10_readsOrder 230 = .ok (.iconst 1, 1) := by decide +kernel
theorem dX10_readsOrder_231 : decode cX10_readsOrder 231 = .ok (.goto 4, 3) := by decide +kernel
theorem dX10_readsOrder_234 : decode cX10_readsOrder 234 = .ok (.iconst 0, 1) := by decide +kernel
theorem dX10_readsOrder_235 : decode cX10_readsOrder 235 = .ok (.iadd, 1) := by decide +kernel
theorem dX10_readsOrder_236 : decode cX10_readsOrder 236 = .ok (.putfield 169, 3) := by decide +kernel
theorem dX10_readsOrder_239 : decode cX10_readsOrder 239 = .ok (.return_, 1) := by decide +kernel
set_option maxRecDepth 20000 in
theorem ggX10_reads_X10_readsOrder : GoodIn wsX10_reads wsX10_readsOrder := goodIn_r _ [9, 3, 2, 1, 10, 11, 12, 13, 8, 14, 4, 15, 16, 17, 18, 19, 20, 21, 22, 23, 24, 25, 26, 27, 28, 29, 30, 31, 32, 33, 34, 35, 36, 37, 38, 39, 40, 41, 42, 43, 44, 45, 46, 47, 48, 49] (by decide +kernel) (by decide +kernel)
set_option maxRecDepth 20000 in
theorem gX10_reads_X10_readsOrder : GoodIn wsX10_reads (wsV RX10 182 RX10 yX10_readsOrder wsX10_readsOrder) := goodIn_app (goodIn_of _ (by decide +kernel)) ggX10_reads_X10_readsOrder
set_option maxRecDepth 20000 in
theorem ggX10_reads_X10_wants : GoodIn wsX10_reads wsX10_wants := goodIn_r _ [30, 2, 1, 11, 12, 13, 8, 14, 4, 15, 35, 36, 37, 38, 39, 40, 41, 42, 43, 44, 45, 46, 47, 48, 49] (by decide +kernel) (by decide +kernel)
set_option maxRecDepth 20000 in
theorem gX10_reads_X10_wants : GoodIn wsX10_reads (wsV RX10 166 RX10 yX10_wants wsX10_wants) := goodIn_app (goodIn_of _ (by decide +kernel)) ggX10_reads_X10_wants
theorem dX10_reads_0 : decode cX10_reads 0 = .ok (.aload_n 0, 1) := by decide +kernel
theorem dX10_reads_1 : decode cX10_reads 1 = .ok (.iconst 0, 1) := by decide +kernel
theorem dX10_reads_2 : decode cX10_reads 2 = .ok (.putfield 156, 3) := by decide +kernel
theorem dX10_reads_5 : decode cX10_reads 5 = .ok (.aload_n 0, 1) := by decide +kernel
theorem dX10_reads_6 : decode cX10_reads 6 = .ok (.iconst 1, 1) := by decide +kernel
theorem dX10_reads_7 : decode cX10_reads 7 = .ok (.putfield 159, 3) := by decide +kernel
theorem dX10_reads_10 : decode cX10_reads 10 = .ok (.aload_n 0, 1) := by decide +kernel
theorem dX10_reads_11 : decode cX10_reads 11 = .ok (.iconst 0, 1) := by decide +kernel
theorem dX10_reads_12 : decode cX10_reads 12 = .ok (.putfield 169, 3) := by decide +kernel
theorem dX10_reads_15 : decode cX10_reads 15 = .ok (.aload_n 0, 1) := by decide +kernel
theorem dX10_reads_16 : decode cX10_reads 16 = .ok (.invokevirtual 182, 3) := by decide +kernel
theorem dX10_reads_19 : decode cX10_reads 19 = .ok (.aload_n 0, 1) := by decide +kernel
theorem dX10_reads_20 : decode cX10_reads 20 = .ok (.getfield 159, 3) := by decide +kernel
theorem dX10_reads_23 : decode cX10_reads 23 = .ok (.ifCond .eq 34, 3) := by decide +kernel
theorem dX10_reads_26 : decode cX10_reads 26 = .ok (.aload_n 0, 1) := by decide +kernel
theorem dX10_reads_27 : decode cX10_reads 27 = .ok (.getfield 156, 3) := by decide +kernel
theorem dX10_reads_30 : decode cX10_reads 30 = .ok (.aload_n 0, 1) := by decide +kernel
theorem dX10_reads_31 : decode cX10_reads 31 = .ok (.getfield 144, 3) := by decide +kernel
theorem dX10_reads_34 : decode cX10_reads 34 = .ok (.if_icmp .ge 23, 3) := by decide +kernel
theorem dX10_reads_37 : decode cX10_reads 37 = .ok (.aload_n 0, 1) := by decide +kernel
theorem dX10_reads_38 : decode cX10_reads 38 = .ok (.bipush 59, 2) := by decide +kernel
theorem dX10_reads_40 : decode cX10_reads 40 = .ok (.invokevirtual 166, 3) := by decide +kernel
theorem dX10_reads_43 : decode cX10_reads 43 = .ok (.aload_n 0, 1) := by decide +kernel
theorem dX10_reads_44 : decode cX10_reads 44 = .ok (.getfield 159, 3) := by decide +kernel
theorem dX10_reads_47 : decode cX10_reads 47 = .ok (.ifCond .eq (-28), 3) := by decide +kernel
theorem dX10_reads_50 : decode cX10_reads 50 = .ok (.aload_n 0, 1) := by decide +kernel
theorem dX10_reads_51 : decode cX10_reads 51 = .ok (.invokevirtual 182, 3) := by decide +kernel
theorem dX10_reads_54 : decode cX10_reads 54 = .ok (.goto (-35), 3) := by decide +kernel
theorem dX10_reads_57 : decode cX10_reads 57 = .ok (.aload_n 0, 1) := by decide +kernel
theorem dX10_reads_58 : decode cX10_reads 58 = .ok (.getfield 159, 3) := by decide +kernel
theorem dX10_reads_61 : decode cX10_reads 61 = .ok (.ifCond .eq 8, 3) := by decide +kernel
theorem dX10_reads_64 : decode cX10_reads 64 = .ok (.bipush (-6), 2) := by decide +kernel
theorem dX10_reads_66 : decode cX10_reads 66 = .ok (.goto 7, 3) := by decide +kernel
theorem dX10_reads_69 : decode cX10_reads 69 = .ok (.aload_n 0, 1) := by decide +kernel
theorem dX10_reads_70 : decode cX10_reads 70 = .ok (.getfield 156, 3) := by decide +kernel
theorem dX10_reads_73 : decode cX10_reads 73 = .ok (.ireturn, 1) := by decide +kernel
set_option maxRecDepth 20000 in
theorem ggX10_fault_X10_reads : GoodIn wsX10_fault wsX10_reads := goodIn_r _ [6, 7, 8, 9, 10, 11, 12, 13, 5, 14, 15, 16, 17, 18, 19, 20, 21, 22, 23, 24, 25, 26, 27, 28, 29, 30, 31, 32, 33, 34, 35, 36, 37, 38, 39, 40, 41, 42, 43, 44, 45, 46, 47, 48, 49, 50, 51, 52, 53, 54] (by decide +kernel) (by decide +kernel)
set_option maxRecDepth 20000 in
theorem gX10_fault_X10_reads : GoodIn wsX10_fault (wsV RX10 185 RX10 yX10_reads wsX10_reads) := goodIn_app (goodIn_of _ (by decide +kernel)) ggX10_fault_X10_reads
theorem dX10_fault_0 : decode cX10_fault 0 = .ok (.aload_n 0, 1) := by decide +kernel
theorem dX10_fault_1 : decode cX10_fault 1 = .ok (.iconst 0, 1) := by decide +kernel
theorem dX10_fault_2 : decode cX10_fault 2 = .ok (.putfield 32, 3) := by decide +kernel
theorem dX10_fault_5 : decode cX10_fault 5 = .ok (.aload_n 0, 1) := by decide +kernel
theorem dX10_fault_6 : decode cX10_fault 6 = .ok (.invokevirtual 185, 3) := by decide +kernel
theorem dX10_fault_9 : decode cX10_fault 9 = .ok (.ireturn, 1) := by decide +kernel
set_option maxRecDepth 20000 in
theorem ggX10_refuses_X10_refusesFace : GoodIn wsX10_refuses wsX10_refusesFace := goodIn_r _ [6, 7, 8, 9, 5, 10, 23, 24, 25, 26, 27, 28, 29, 30, 31, 32, 33, 34, 35, 36, 37] (by decide +kernel) (by decide +kernel)
set_option maxRecDepth 20000 in
theorem gX10_refuses_X10_refusesFace : GoodIn wsX10_refuses (wsV RX10 112 RX10 yX10_refusesFace wsX10_refusesFace) := goodIn_app (goodIn_of _ (by decide +kernel)) ggX10_refuses_X10_refusesFace
set_option maxRecDepth 20000 in
theorem ggX10_refuses_X10_refusesContract : GoodIn wsX10_refuses wsX10_refusesContract := goodIn_r _ [14, 7, 8, 9, 5, 10, 23, 24, 25, 26, 27, 28, 29, 30, 31, 32, 33, 34, 35, 36, 37] (by decide +kernel) (by decide +kernel)
set_option maxRecDepth 20000 in
theorem gX10_refuses_X10_refusesContract : GoodIn wsX10_refuses (wsV RX10 119 RX10 yX10_refusesContract wsX10_refusesContract) := goodIn_app (goodIn_of _ (by decide +kernel)) ggX10_refuses_X10_refusesContract
set_option maxRecDepth 20000 in
theorem ggX10_refuses_X10_refusesPass : GoodIn wsX10_refuses wsX10_refusesPass := goodIn_r _ [18, 7, 8, 9, 5, 10, 23, 24, 25, 26, 27, 28, 29, 30, 31, 32, 33, 34, 35, 36, 37] (by decide +kernel) (by decide +kernel)
set_option maxRecDepth 20000 in
theorem gX10_refuses_X10_refusesPass : GoodIn wsX10_refuses (wsV RX10 129 RX10 yX10_refusesPass wsX10_refusesPass) := goodIn_app (goodIn_of _ (by decide +kernel)) ggX10_refuses_X10_refusesPass
set_option maxRecDepth 20000 in
theorem ggX10_refuses_X10_isContract : GoodIn wsX10_refuses wsX10_isContract := goodIn_r _ [22, 7, 8, 9, 5, 10, 23, 24, 25, 26, 27, 28, 29, 30, 31, 32, 33, 34, 35, 36, 37] (by decide +kernel) (by decide +kernel)
set_option maxRecDepth 20000 in
theorem gX10_refuses_X10_isContract : GoodIn wsX10_refuses (wsV RX10 126 RX10 yX10_isContract wsX10_isContract) := goodIn_app (goodIn_of _ (by decide +kernel)) ggX10_refuses_X10_isContract
theorem dX10_refuses_0 : decode cX10_refuses 0 = .ok (.bipush 7, 2) := by decide +kernel
theorem dX10_refuses_2 : decode cX10_refuses 2 = .ok (.iload_n 1, 1) := by decide +kernel
theorem dX10_refuses_3 : decode cX10_refuses 3 = .ok (.imul, 1) := by decide +kernel
theorem dX10_refuses_4 : decode cX10_refuses 4 = .ok (.istore_n 2, 1) := by decide +kernel
theorem dX10_refuses_5 : decode cX10_refuses 5 = .ok (.aload_n 0, 1) := by decide +kernel
theorem dX10_refuses_6 : decode cX10_refuses 6 = .ok (.getfield 29, 3) := by decide +kernel
theorem dX10_refuses_9 : decode cX10_refuses 9 = .ok (.iload_n 2, 1) := by decide +kernel
theorem dX10_refuses_10 : decode cX10_refuses 10 = .ok (.iaload, 1) := by decide +kernel
theorem dX10_refuses_11 : decode cX10_refuses 11 = .ok (.lookupswitch 158 #[(99, 70), (100, 124), (102, 41), (120, 137)], 41) := by decide +kernel
theorem dX10_refuses_52 : decode cX10_refuses 52 = .ok (.aload_n 0, 1) := by decide +kernel
theorem dX10_refuses_53 : decode cX10_refuses 53 = .ok (.aload_n 0, 1) := by decide +kernel
theorem dX10_refuses_54 : decode cX10_refuses 54 = .ok (.getfield 29, 3) := by decide +kernel
theorem dX10_refuses_57 : decode cX10_refuses 57 = .ok (.iload_n 2, 1) := by decide +kernel
theorem dX10_refuses_58 : decode cX10_refuses 58 = .ok (.iconst 1, 1) := by decide +kernel
theorem dX10_refuses_59 : decode cX10_refuses 59 = .ok (.iadd, 1) := by decide +kernel
theorem dX10_refuses_60 : decode cX10_refuses 60 = .ok (.iaload, 1) := by decide +kernel
theorem dX10_refuses_61 : decode cX10_refuses 61 = .ok (.aload_n 0, 1) := by decide +kernel
theorem dX10_refuses_62 : decode cX10_refuses 62 = .ok (.getfield 29, 3) := by decide +kernel
theorem dX10_refuses_65 : decode cX10_refuses 65 = .ok (.iload_n 2, 1) := by decide +kernel
theorem dX10_refuses_66 : decode cX10_refuses 66 = .ok (.iconst 2, 1) := by decide +kernel
theorem dX10_refuses_67 : decode cX10_refuses 67 = .ok (.iadd, 1) := by decide +kernel
theorem dX10_refuses_68 : decode cX10_refuses 68 = .ok (.iaload, 1) := by decide +kernel
theorem dX10_refuses_69 : decode cX10_refuses 69 = .ok (.aload_n 0, 1) := by decide +kernel
theorem dX10_refuses_70 : decode cX10_refuses 70 = .ok (.getfield 29, 3) := by decide +kernel
theorem dX10_refuses_73 : decode cX10_refuses 73 = .ok (.iload_n 2, 1) := by decide +kernel
theorem dX10_refuses_74 : decode cX10_refuses 74 = .ok (.iconst 3, 1) := by decide +kernel
theorem dX10_refuses_75 : decode cX10_refuses 75 = .ok (.iadd, 1) := by decide +kernel
theorem dX10_refuses_76 : decode cX10_refuses 76 = .ok (.iaload, 1) := by decide +kernel
theorem dX10_refuses_77 : decode cX10_refuses 77 = .ok (.invokevirtual 112, 3) := by decide +kernel
theorem dX10_refuses_80 : decode cX10_refuses 80 = .ok (.ireturn, 1) := by decide +kernel
theorem dX10_refuses_81 : decode cX10_refuses 81 = .ok (.aload_n 0, 1) := by decide +kernel
theorem dX10_refuses_82 : decode cX10_refuses 82 = .ok (.aload_n 0, 1) := by decide +kernel
theorem dX10_refuses_83 : decode cX10_refuses 83 = .ok (.getfield 29, 3) := by decide +kernel
theorem dX10_refuses_86 : decode cX10_refuses 86 = .ok (.iload_n 2, 1) := by decide +kernel
theorem dX10_refuses_87 : decode cX10_refuses 87 = .ok (.iconst 1, 1) := by decide +kernel
theorem dX10_refuses_88 : decode cX10_refuses 88 = .ok (.iadd, 1) := by decide +kernel
theorem dX10_refuses_89 : decode cX10_refuses 89 = .ok (.iaload, 1) := by decide +kernel
theorem dX10_refuses_90 : decode cX10_refuses 90 = .ok (.aload_n 0, 1) := by decide +kernel
theorem dX10_refuses_91 : decode cX10_refuses 91 = .ok (.getfield 29, 3) := by decide +kernel
theorem dX10_refuses_94 : decode cX10_refuses 94 = .ok (.iload_n 2, 1) := by decide +kernel
theorem dX10_refuses_95 : decode cX10_refuses 95 = .ok (.iconst 2, 1) := by decide +kernel
theorem dX10_refuses_96 : decode cX10_refuses 96 = .ok (.iadd, 1) := by decide +kernel
theorem dX10_refuses_97 : decode cX10_refuses 97 = .ok (.iaload, 1) := by decide +kernel
theorem dX10_refuses_98 : decode cX10_refuses 98 = .ok (.aload_n 0, 1) := by decide +kernel
theorem dX10_refuses_99 : decode cX10_refuses 99 = .ok (.getfield 29, 3) := by decide +kernel
theorem dX10_refuses_102 : decode cX10_refuses 102 = .ok (.iload_n 2, 1) := by decide +kernel
theorem dX10_refuses_103 : decode cX10_refuses 103 = .ok (.iconst 3, 1) := by decide +kernel
theorem dX10_refuses_104 : decode cX10_refuses 104 = .ok (.iadd, 1) := by decide +kernel
theorem dX10_refuses_105 : decode cX10_refuses 105 = .ok (.iaload, 1) := by decide +kernel
theorem dX10_refuses_106 : decode cX10_refuses 106 = .ok (.aload_n 0, 1) := by decide +kernel
theorem dX10_refuses_107 : decode cX10_refuses 107 = .ok (.getfield 29, 3) := by decide +kernel
theorem dX10_refuses_110 : decode cX10_refuses 110 = .ok (.iload_n 2, 1) := by decide +kernel
theorem dX10_refuses_111 : decode cX10_refuses 111 = .ok (.iconst 4, 1) := by decide +kernel
theorem dX10_refuses_112 : decode cX10_refuses 112 = .ok (.iadd, 1) := by decide +kernel
theorem dX10_refuses_113 : decode cX10_refuses 113 = .ok (.iaload, 1) := by decide +kernel
theorem dX10_refuses_114 : decode cX10_refuses 114 = .ok (.aload_n 0, 1) := by decide +kernel
theorem dX10_refuses_115 : decode cX10_refuses 115 = .ok (.getfield 29, 3) := by decide +kernel
theorem dX10_refuses_118 : decode cX10_refuses 118 = .ok (.iload_n 2, 1) := by decide +kernel
theorem dX10_refuses_119 : decode cX10_refuses 119 = .ok (.iconst 5, 1) := by decide +kernel
theorem dX10_refuses_120 : decode cX10_refuses 120 = .ok (.iadd, 1) := by decide +kernel
theorem dX10_refuses_121 : decode cX10_refuses 121 = .ok (.iaload, 1) := by decide +kernel
theorem dX10_refuses_122 : decode cX10_refuses 122 = .ok (.aload_n 0, 1) := by decide +kernel
theorem dX10_refuses_123 : decode cX10_refuses 123 = .ok (.getfield 29, 3) := by decide +kernel
theorem dX10_refuses_126 : decode cX10_refuses 126 = .ok (.iload_n 2, 1) := by decide +kernel
theorem dX10_refuses_127 : decode cX10_refuses 127 = .ok (.bipush 6, 2) := by decide +kernel
theorem dX10_refuses_129 : decode cX10_refuses 129 = .ok (.iadd, 1) := by decide +kernel
theorem dX10_refuses_130 : decode cX10_refuses 130 = .ok (.iaload, 1) := by decide +kernel
theorem dX10_refuses_131 : decode cX10_refuses 131 = .ok (.invokevirtual 119, 3) := by decide +kernel
theorem dX10_refuses_134 : decode cX10_refuses 134 = .ok (.ireturn, 1) := by decide +kernel
theorem dX10_refuses_135 : decode cX10_refuses 135 = .ok (.aload_n 0, 1) := by decide +kernel
theorem dX10_refuses_136 : decode cX10_refuses 136 = .ok (.aload_n 0, 1) := by decide +kernel
theorem dX10_refuses_137 : decode cX10_refuses 137 = .ok (.getfield 29, 3) := by decide +kernel
theorem dX10_refuses_140 : decode cX10_refuses 140 = .ok (.iload_n 2, 1) := by decide +kernel
theorem dX10_refuses_141 : decode cX10_refuses 141 = .ok (.iconst 1, 1) := by decide +kernel
theorem dX10_refuses_142 : decode cX10_refuses 142 = .ok (.iadd, 1) := by decide +kernel
theorem dX10_refuses_143 : decode cX10_refuses 143 = .ok (.iaload, 1) := by decide +kernel
theorem dX10_refuses_144 : decode cX10_refuses 144 = .ok (.invokevirtual 129, 3) := by decide +kernel
theorem dX10_refuses_147 : decode cX10_refuses 147 = .ok (.ireturn, 1) := by decide +kernel
theorem dX10_refuses_148 : decode cX10_refuses 148 = .ok (.aload_n 0, 1) := by decide +kernel
theorem dX10_refuses_149 : decode cX10_refuses 149 = .ok (.aload_n 0, 1) := by decide +kernel
theorem dX10_refuses_150 : decode cX10_refuses 150 = .ok (.getfield 29, 3) := by decide +kernel
theorem dX10_refuses_153 : decode cX10_refuses 153 = .ok (.iload_n 2, 1) := by decide +kernel
theorem dX10_refuses_154 : decode cX10_refuses 154 = .ok (.iconst 1, 1) := by decide +kernel
theorem dX10_refuses_155 : decode cX10_refuses 155 = .ok (.iadd, 1) := by decide +kernel
theorem dX10_refuses_156 : decode cX10_refuses 156 = .ok (.iaload, 1) := by decide +kernel
theorem dX10_refuses_157 : decode cX10_refuses 157 = .ok (.invokevirtual 126, 3) := by decide +kernel
theorem dX10_refuses_160 : decode cX10_refuses 160 = .ok (.ifCond .eq 7, 3) := by decide +kernel
theorem dX10_refuses_163 : decode cX10_refuses 163 = .ok (.iconst 0, 1) := by decide +kernel
theorem dX10_refuses_164 : decode cX10_refuses 164 = .ok (.goto 4, 3) := by decide +kernel
theorem dX10_refuses_167 : decode cX10_refuses 167 = .ok (.iconst (-1), 1) := by decide +kernel
theorem dX10_refuses_168 : decode cX10_refuses 168 = .ok (.ireturn, 1) := by decide +kernel
theorem dX10_refuses_169 : decode cX10_refuses 169 = .ok (.iconst 0, 1) := by decide +kernel
theorem dX10_refuses_170 : decode cX10_refuses 170 = .ok (.ireturn, 1) := by decide +kernel
set_option maxRecDepth 20000 in
theorem ggX10_does_X10_laysFace : GoodIn wsX10_does wsX10_laysFace := goodIn_r _ [7, 2, 73, 74, 75, 76, 77, 78, 79, 80, 81, 82, 83, 84, 85, 86, 87] (by decide +kernel) (by decide +kernel)
set_option maxRecDepth 20000 in
theorem gX10_does_X10_laysFace : GoodIn wsX10_does (wsV RX10 116 RX10 yX10_laysFace wsX10_laysFace) := goodIn_app (goodIn_of _ (by decide +kernel)) ggX10_does_X10_laysFace
set_option maxRecDepth 20000 in
theorem ggX10_does_X10_laysContract : GoodIn wsX10_does wsX10_laysContract := goodIn_r _ [11, 2, 73, 74, 75, 76, 77, 78, 79, 80, 81, 82, 83, 84, 85, 86, 87] (by decide +kernel) (by decide +kernel)
set_option maxRecDepth 20000 in
theorem gX10_does_X10_laysContract : GoodIn wsX10_does (wsV RX10 123 RX10 yX10_laysContract wsX10_laysContract) := goodIn_app (goodIn_of _ (by decide +kernel)) ggX10_does_X10_laysContract
set_option maxRecDepth 20000 in
theorem ggX10_does_X10_days : GoodIn wsX10_does wsX10_days := goodIn_r _ [15, 2, 16, 17, 18, 6, 19, 20, 21, 22, 23, 24, 25, 26, 27, 28, 29, 30, 31, 32, 33, 34, 35, 36, 37, 38, 39, 40, 41, 42, 43, 44, 45, 46, 47, 48, 49, 50, 51, 52, 53, 54, 55, 56, 57, 58, 59, 60, 61, 62, 63, 64, 65, 66, 67, 68, 69, 70, 71, 72, 73, 74, 75, 76, 77, 78, 79, 80, 81, 82, 83, 84, 85, 86, 87] (by decide +kernel) (by decide +kernel)
set_option maxRecDepth 20000 in
theorem gX10_does_X10_days : GoodIn wsX10_does (wsV RX10 132 RX10 yX10_days wsX10_days) := goodIn_app (goodIn_of _ (by decide +kernel)) ggX10_does_X10_days
set_option maxRecDepth 20000 in
theorem ggX10_does_X10_dropsContract : GoodIn wsX10_does wsX10_dropsContract := goodIn_r _ [72, 2, 73, 74, 75, 76, 77, 78, 79, 80, 81, 82, 83, 84, 85, 86, 87] (by decide +kernel) (by decide +kernel)
set_option maxRecDepth 20000 in
theorem gX10_does_X10_dropsContract : GoodIn wsX10_does (wsV RX10 59 RX10 yX10_dropsContract wsX10_dropsContract) := goodIn_app (goodIn_of _ (by decide +kernel)) ggX10_does_X10_dropsContract
theorem dX10_does_0 : decode cX10_does 0 = .ok (.bipush 7, 2) := by decide +kernel
theorem dX10_does_2 : decode cX10_does 2 = .ok (.iload_n 1, 1) := by decide +kernel
theorem dX10_does_3 : decode cX10_does 3 = .ok (.imul, 1) := by decide +kernel
theorem dX10_does_4 : decode cX10_does 4 = .ok (.istore_n 2, 1) := by decide +kernel
theorem dX10_does_5 : decode cX10_does 5 = .ok (.aload_n 0, 1) := by decide +kernel
theorem dX10_does_6 : decode cX10_does 6 = .ok (.getfield 29, 3) := by decide +kernel
theorem dX10_does_9 : decode cX10_does 9 = .ok (.iload_n 2, 1) := by decide +kernel
theorem dX10_does_10 : decode cX10_does 10 = .ok (.iaload, 1) := by decide +kernel
theorem dX10_does_11 : decode cX10_does 11 = .ok (.lookupswitch 186 #[(99, 81), (100, 138), (102, 49), (103, 169), (120, 154)], 49) := by decide +kernel
theorem dX10_does_60 : decode cX10_does 60 = .ok (.aload_n 0, 1) := by decide +kernel
theorem dX10_does_61 : decode cX10_does 61 = .ok (.aload_n 0, 1) := by decide +kernel
theorem dX10_does_62 : decode cX10_does 62 = .ok (.getfield 29, 3) := by decide +kernel
theorem dX10_does_65 : decode cX10_does 65 = .ok (.iload_n 2, 1) := by decide +kernel
theorem dX10_does_66 : decode cX10_does 66 = .ok (.iconst 1, 1) := by decide +kernel
theorem dX10_does_67 : decode cX10_does 67 = .ok (.iadd, 1) := by decide +kernel
theorem dX10_does_68 : decode cX10_does 68 = .ok (.iaload, 1) := by decide +kernel
theorem dX10_does_69 : decode cX10_does 69 = .ok (.aload_n 0, 1) := by decide +kernel
theorem dX10_does_70 : decode cX10_does 70 = .ok (.getfield 29, 3) := by decide +kernel
theorem dX10_does_73 : decode cX10_does 73 = .ok (.iload_n 2, 1) := by decide +kernel
theorem dX10_does_74 : decode cX10_does 74 = .ok (.iconst 2, 1) := by decide +kernel
theorem dX10_does_75 : decode cX10_does 75 = .ok (.iadd, 1) := by decide +kernel
theorem dX10_does_76 : decode cX10_does 76 = .ok (.iaload, 1) := by decide +kernel
theorem dX10_does_77 : decode cX10_does 77 = .ok (.aload_n 0, 1) := by decide +kernel
theorem dX10_does_78 : decode cX10_does 78 = .ok (.getfield 29, 3) := by decide +kernel
theorem dX10_does_81 : decode cX10_does 81 = .ok (.iload_n 2, 1) := by decide +kernel
theorem dX10_does_82 : decode cX10_does 82 = .ok (.iconst 3, 1) := by decide +kernel
theorem dX10_does_83 : decode cX10_does 83 = .ok (.iadd, 1) := by decide +kernel
theorem dX10_does_84 : decode cX10_does 84 = .ok (.iaload, 1) := by decide +kernel
theorem dX10_does_85 : decode cX10_does 85 = .ok (.invokevirtual 116, 3) := by decide +kernel
theorem dX10_does_88 : decode cX10_does 88 = .ok (.pop, 1) := by decide +kernel
theorem dX10_does_89 : decode cX10_does 89 = .ok (.goto 116, 3) := by decide +kernel
theorem dX10_does_92 : decode cX10_does 92 = .ok (.aload_n 0, 1) := by decide +kernel
theorem dX10_does_93 : decode cX10_does 93 = .ok (.aload_n 0, 1) := by decide +kernel
theorem dX10_does_94 : decode cX10_does 94 = .ok (.getfield 29, 3) := by decide +kernel
theorem dX10_does_97 : decode cX10_does 97 = .ok (.iload_n 2, 1) := by decide +kernel
theorem dX10_does_98 : decode cX10_does 98 = .ok (.iconst 1, 1) := by decide +kernel
theorem dX10_does_99 : decode cX10_does 99 = .ok (.iadd, 1) := by decide +kernel
theorem dX10_does_100 : decode cX10_does 100 = .ok (.iaload, 1) := by decide +kernel
theorem dX10_does_101 : decode cX10_does 101 = .ok (.aload_n 0, 1) := by decide +kernel
theorem dX10_does_102 : decode cX10_does 102 = .ok (.getfield 29, 3) := by decide +kernel
theorem dX10_does_105 : decode cX10_does 105 = .ok (.iload_n 2, 1) := by decide +kernel
theorem dX10_does_106 : decode cX10_does 106 = .ok (.iconst 2, 1) := by decide +kernel
theorem dX10_does_107 : decode cX10_does 107 = .ok (.iadd, 1) := by decide +kernel
theorem dX10_does_108 : decode cX10_does 108 = .ok (.iaload, 1) := by decide +kernel
theorem dX10_does_109 : decode cX10_does 109 = .ok (.aload_n 0, 1) := by decide +kernel
theorem dX10_does_110 : decode cX10_does 110 = .ok (.getfield 29, 3) := by decide +kernel
theorem dX10_does_113 : decode cX10_does 113 = .ok (.iload_n 2, 1) := by decide +kernel
theorem dX10_does_114 : decode cX10_does 114 = .ok (.iconst 3, 1) := by decide +kernel
theorem dX10_does_115 : decode cX10_does 115 = .ok (.iadd, 1) := by decide +kernel
theorem dX10_does_116 : decode cX10_does 116 = .ok (.iaload, 1) := by decide +kernel
theorem dX10_does_117 : decode cX10_does 117 = .ok (.aload_n 0, 1) := by decide +kernel
theorem dX10_does_118 : decode cX10_does 118 = .ok (.getfield 29, 3) := by decide +kernel
theorem dX10_does_121 : decode cX10_does 121 = .ok (.iload_n 2, 1) := by decide +kernel
theorem dX10_does_122 : decode cX10_does 122 = .ok (.iconst 4, 1) := by decide +kernel
theorem dX10_does_123 : decode cX10_does 123 = .ok (.iadd, 1) := by decide +kernel
theorem dX10_does_124 : decode cX10_does 124 = .ok (.iaload, 1) := by decide +kernel
theorem dX10_does_125 : decode cX10_does 125 = .ok (.aload_n 0, 1) := by decide +kernel
theorem dX10_does_126 : decode cX10_does 126 = .ok (.getfield 29, 3) := by decide +kernel
theorem dX10_does_129 : decode cX10_does 129 = .ok (.iload_n 2, 1) := by decide +kernel
theorem dX10_does_130 : decode cX10_does 130 = .ok (.iconst 5, 1) := by decide +kernel
theorem dX10_does_131 : decode cX10_does 131 = .ok (.iadd, 1) := by decide +kernel
theorem dX10_does_132 : decode cX10_does 132 = .ok (.iaload, 1) := by decide +kernel
theorem dX10_does_133 : decode cX10_does 133 = .ok (.aload_n 0, 1) := by decide +kernel
theorem dX10_does_134 : decode cX10_does 134 = .ok (.getfield 29, 3) := by decide +kernel
theorem dX10_does_137 : decode cX10_does 137 = .ok (.iload_n 2, 1) := by decide +kernel
theorem dX10_does_138 : decode cX10_does 138 = .ok (.bipush 6, 2) := by decide +kernel
theorem dX10_does_140 : decode cX10_does 140 = .ok (.iadd, 1) := by decide +kernel
theorem dX10_does_141 : decode cX10_does 141 = .ok (.iaload, 1) := by decide +kernel
theorem dX10_does_142 : decode cX10_does 142 = .ok (.invokevirtual 123, 3) := by decide +kernel
theorem dX10_does_145 : decode cX10_does 145 = .ok (.pop, 1) := by decide +kernel
theorem dX10_does_146 : decode cX10_does 146 = .ok (.goto 59, 3) := by decide +kernel
theorem dX10_does_149 : decode cX10_does 149 = .ok (.aload_n 0, 1) := by decide +kernel
theorem dX10_does_150 : decode cX10_does 150 = .ok (.aload_n 0, 1) := by decide +kernel
theorem dX10_does_151 : decode cX10_does 151 = .ok (.getfield 29, 3) := by decide +kernel
theorem dX10_does_154 : decode cX10_does 154 = .ok (.iload_n 2, 1) := by decide +kernel
theorem dX10_does_155 : decode cX10_does 155 = .ok (.iconst 1, 1) := by decide +kernel
theorem dX10_does_156 : decode cX10_does 156 = .ok (.iadd, 1) := by decide +kernel
theorem dX10_does_157 : decode cX10_does 157 = .ok (.iaload, 1) := by decide +kernel
theorem dX10_does_158 : decode cX10_does 158 = .ok (.invokevirtual 132, 3) := by decide +kernel
theorem dX10_does_161 : decode cX10_does 161 = .ok (.pop, 1) := by decide +kernel
theorem dX10_does_162 : decode cX10_does 162 = .ok (.goto 43, 3) := by decide +kernel
theorem dX10_does_165 : decode cX10_does 165 = .ok (.aload_n 0, 1) := by decide +kernel
theorem dX10_does_166 : decode cX10_does 166 = .ok (.aload_n 0, 1) := by decide +kernel
theorem dX10_does_167 : decode cX10_does 167 = .ok (.getfield 29, 3) := by decide +kernel
theorem dX10_does_170 : decode cX10_does 170 = .ok (.iload_n 2, 1) := by decide +kernel
theorem dX10_does_171 : decode cX10_does 171 = .ok (.iconst 1, 1) := by decide +kernel
theorem dX10_does_172 : decode cX10_does 172 = .ok (.iadd, 1) := by decide +kernel
theorem dX10_does_173 : decode cX10_does 173 = .ok (.iaload, 1) := by decide +kernel
theorem dX10_does_174 : decode cX10_does 174 = .ok (.invokevirtual 59, 3) := by decide +kernel
theorem dX10_does_177 : decode cX10_does 177 = .ok (.goto 28, 3) := by decide +kernel
theorem dX10_does_180 : decode cX10_does 180 = .ok (.aload_n 0, 1) := by decide +kernel
theorem dX10_does_181 : decode cX10_does 181 = .ok (.getfield 7, 3) := by decide +kernel
theorem dX10_does_184 : decode cX10_does 184 = .ok (.iconst 3, 1) := by decide +kernel
theorem dX10_does_185 : decode cX10_does 185 = .ok (.aload_n 0, 1) := by decide +kernel
theorem dX10_does_186 : decode cX10_does 186 = .ok (.getfield 29, 3) := by decide +kernel
theorem dX10_does_189 : decode cX10_does 189 = .ok (.iload_n 2, 1) := by decide +kernel
theorem dX10_does_190 : decode cX10_does 190 = .ok (.iconst 1, 1) := by decide +kernel
theorem dX10_does_191 : decode cX10_does 191 = .ok (.iadd, 1) := by decide +kernel
theorem dX10_does_192 : decode cX10_does 192 = .ok (.iaload, 1) := by decide +kernel
theorem dX10_does_193 : decode cX10_does 193 = .ok (.iastore, 1) := by decide +kernel
theorem dX10_does_194 : decode cX10_does 194 = .ok (.goto 11, 3) := by decide +kernel
theorem dX10_does_197 : decode cX10_does 197 = .ok (.aload_n 0, 1) := by decide +kernel
theorem dX10_does_198 : decode cX10_does 198 = .ok (.getfield 7, 3) := by decide +kernel
theorem dX10_does_201 : decode cX10_does 201 = .ok (.bipush 10, 2) := by decide +kernel
theorem dX10_does_203 : decode cX10_does 203 = .ok (.iconst 0, 1) := by decide +kernel
theorem dX10_does_204 : decode cX10_does 204 = .ok (.iastore, 1) := by decide +kernel
theorem dX10_does_205 : decode cX10_does 205 = .ok (.return_, 1) := by decide +kernel
set_option maxRecDepth 20000 in
theorem ggX10_carryOut_X10_reads : GoodIn wsX10_carryOut wsX10_reads := goodIn_r _ [8, 9, 10, 3, 2, 11, 12, 13, 7, 14, 15, 16, 17, 18, 19, 20, 21, 22, 23, 24, 25, 26, 27, 28, 29, 30, 31, 32, 33, 34, 35, 36, 37, 38, 39, 140, 141, 142, 143, 144, 145, 146, 147, 148, 149, 150, 151, 152, 153, 154] (by decide +kernel) (by decide +kernel)
set_option maxRecDepth 20000 in
theorem gX10_carryOut_X10_reads : GoodIn wsX10_carryOut (wsV RX10 185 RX10 yX10_reads wsX10_reads) := goodIn_app (goodIn_of _ (by decide +kernel)) ggX10_carryOut_X10_reads
set_option maxRecDepth 20000 in
theorem ggX10_carryOut_X10_records : GoodIn wsX10_carryOut wsX10_records := goodIn_r _ [43, 44, 45, 46, 140, 141, 142, 143, 144, 145, 146, 147, 148, 149, 150, 151, 152, 153, 154] (by decide +kernel) (by decide +kernel)
set_option maxRecDepth 20000 in
theorem gX10_carryOut_X10_records : GoodIn wsX10_carryOut (wsV RX10 109 RX10 yX10_records wsX10_records) := goodIn_app (goodIn_of _ (by decide +kernel)) ggX10_carryOut_X10_records
set_option maxRecDepth 20000 in
theorem ggX10_carryOut_X10_refuses : GoodIn wsX10_carryOut wsX10_refuses := goodIn_r _ [50, 15, 51, 52, 53, 7, 54, 46, 25, 26, 27, 55, 56, 57, 58, 59, 60, 61, 62, 63, 64, 65, 66, 140, 141, 142, 143, 144, 145, 146, 147, 148, 149, 150, 151, 152, 153, 154] (by decide +kernel) (by decide +kernel)
set_option maxRecDepth 20000 in
theorem gX10_carryOut_X10_refuses : GoodIn wsX10_carryOut (wsV RX10 188 RX10 yX10_refuses wsX10_refuses) := goodIn_app (goodIn_of _ (by decide +kernel)) ggX10_carryOut_X10_refuses
set_option maxRecDepth 20000 in
theorem ggX10_carryOut_X10_does : GoodIn wsX10_carryOut wsX10_does := goodIn_r _ [70, 15, 46, 71, 72, 73, 7, 74, 75, 76, 77, 78, 79, 80, 81, 82, 83, 84, 85, 86, 87, 88, 89, 90, 91, 92, 93, 94, 95, 96, 97, 98, 99, 100, 101, 102, 103, 104, 105, 106, 107, 108, 109, 110, 111, 112, 113, 114, 115, 116, 117, 118, 119, 120, 121, 122, 123, 124, 125, 126, 127, 128, 129, 130, 131, 132, 133, 134, 135, 136, 137, 138, 139, 140, 141, 142, 143, 144, 145, 146, 147, 148, 149, 150, 151, 152, 153, 154] (by decide +kernel) (by decide +kernel)
set_option maxRecDepth 20000 in
theorem gX10_carryOut_X10_does : GoodIn wsX10_carryOut (wsV RX10 191 RX10 yX10_does wsX10_does) := goodIn_app (goodIn_of _ (by decide +kernel)) ggX10_carryOut_X10_does
theorem dX10_carryOut_0 : decode cX10_carryOut 0 = .ok (.aload_n 0, 1) := by decide +kernel
theorem dX10_carryOut_1 : decode cX10_carryOut 1 = .ok (.iconst 0, 1) := by decide +kernel
theorem dX10_carryOut_2 : decode cX10_carryOut 2 = .ok (.putfield 32, 3) := by decide +kernel
theorem dX10_carryOut_5 : decode cX10_carryOut 5 = .ok (.aload_n 0, 1) := by decide +kernel
theorem dX10_carryOut_6 : decode cX10_carryOut 6 = .ok (.invokevirtual 185, 3) := by decide +kernel
theorem dX10_carryOut_9 : decode cX10_carryOut 9 = .ok (.bipush (-6), 2) := by decide +kernel
theorem dX10_carryOut_11 : decode cX10_carryOut 11 = .ok (.if_icmp .eq 6, 3) := by decide +kernel
theorem dX10_carryOut_14 : decode cX10_carryOut 14 = .ok (.bipush (-3), 2) := by decide +kernel
theorem dX10_carryOut_16 : decode cX10_carryOut 16 = .ok (.ireturn, 1) := by decide +kernel
theorem dX10_carryOut_17 : decode cX10_carryOut 17 = .ok (.aload_n 0, 1) := by decide +kernel
theorem dX10_carryOut_18 : decode cX10_carryOut 18 = .ok (.invokevirtual 109, 3) := by decide +kernel
theorem dX10_carryOut_21 : decode cX10_carryOut 21 = .ok (.aload_n 0, 1) := by decide +kernel
theorem dX10_carryOut_22 : decode cX10_carryOut 22 = .ok (.iconst 0, 1) := by decide +kernel
theorem dX10_carryOut_23 : decode cX10_carryOut 23 = .ok (.putfield 144, 3) := by decide +kernel
theorem dX10_carryOut_26 : decode cX10_carryOut 26 = .ok (.iconst 0, 1) := by decide +kernel
theorem dX10_carryOut_27 : decode cX10_carryOut 27 = .ok (.istore_n 1, 1) := by decide +kernel
theorem dX10_carryOut_28 : decode cX10_carryOut 28 = .ok (.iload_n 1, 1) := by decide +kernel
theorem dX10_carryOut_29 : decode cX10_carryOut 29 = .ok (.aload_n 0, 1) := by decide +kernel
theorem dX10_carryOut_30 : decode cX10_carryOut 30 = .ok (.getfield 169, 3) := by decide +kernel
theorem dX10_carryOut_33 : decode cX10_carryOut 33 = .ok (.if_icmp .ge 24, 3) := by decide +kernel
theorem dX10_carryOut_36 : decode cX10_carryOut 36 = .ok (.aload_n 0, 1) := by decide +kernel
theorem dX10_carryOut_37 : decode cX10_carryOut 37 = .ok (.iload_n 1, 1) := by decide +kernel
theorem dX10_carryOut_38 : decode cX10_carryOut 38 = .ok (.invokevirtual 188, 3) := by decide +kernel
theorem dX10_carryOut_41 : decode cX10_carryOut 41 = .ok (.ifCond .eq 5, 3) := by decide +kernel
theorem dX10_carryOut_44 : decode cX10_carryOut 44 = .ok (.iload_n 1, 1) := by decide +kernel
theorem dX10_carryOut_45 : decode cX10_carryOut 45 = .ok (.ireturn, 1) := by decide +kernel
theorem dX10_carryOut_46 : decode cX10_carryOut 46 = .ok (.aload_n 0, 1) := by decide +kernel
theorem dX10_carryOut_47 : decode cX10_carryOut 47 = .ok (.iload_n 1, 1) := by decide +kernel
theorem dX10_carryOut_48 : decode cX10_carryOut 48 = .ok (.invokevirtual 191, 3) := by decide +kernel
theorem dX10_carryOut_51 : decode cX10_carryOut 51 = .ok (.iinc 1 1, 3) := by decide +kernel
theorem dX10_carryOut_54 : decode cX10_carryOut 54 = .ok (.goto (-26), 3) := by decide +kernel
theorem dX10_carryOut_57 : decode cX10_carryOut 57 = .ok (.aload_n 0, 1) := by decide +kernel
theorem dX10_carryOut_58 : decode cX10_carryOut 58 = .ok (.getfield 169, 3) := by decide +kernel
theorem dX10_carryOut_61 : decode cX10_carryOut 61 = .ok (.ireturn, 1) := by decide +kernel
theorem dX10_undo_0 : decode cX10_undo 0 = .ok (.aload_n 0, 1) := by decide +kernel
theorem dX10_undo_1 : decode cX10_undo 1 = .ok (.iconst 0, 1) := by decide +kernel
theorem dX10_undo_2 : decode cX10_undo 2 = .ok (.putfield 32, 3) := by decide +kernel
theorem dX10_undo_5 : decode cX10_undo 5 = .ok (.aload_n 0, 1) := by decide +kernel
theorem dX10_undo_6 : decode cX10_undo 6 = .ok (.getfield 36, 3) := by decide +kernel
theorem dX10_undo_9 : decode cX10_undo 9 = .ok (.ifCond .ne 6, 3) := by decide +kernel
theorem dX10_undo_12 : decode cX10_undo 12 = .ok (.bipush (-5), 2) := by decide +kernel
theorem dX10_undo_14 : decode cX10_undo 14 = .ok (.ireturn, 1) := by decide +kernel
theorem dX10_undo_15 : decode cX10_undo 15 = .ok (.aload_n 0, 1) := by decide +kernel
theorem dX10_undo_16 : decode cX10_undo 16 = .ok (.dup, 1) := by decide +kernel
theorem dX10_undo_17 : decode cX10_undo 17 = .ok (.getfield 36, 3) := by decide +kernel
theorem dX10_undo_20 : decode cX10_undo 20 = .ok (.iconst 1, 1) := by decide +kernel
theorem dX10_undo_21 : decode cX10_undo 21 = .ok (.isub, 1) := by decide +kernel
theorem dX10_undo_22 : decode cX10_undo 22 = .ok (.putfield 36, 3) := by decide +kernel
theorem dX10_undo_25 : decode cX10_undo 25 = .ok (.iconst 0, 1) := by decide +kernel
theorem dX10_undo_26 : decode cX10_undo 26 = .ok (.istore_n 1, 1) := by decide +kernel
theorem dX10_undo_27 : decode cX10_undo 27 = .ok (.iload_n 1, 1) := by decide +kernel
theorem dX10_undo_28 : decode cX10_undo 28 = .ok (.sipush 210, 3) := by decide +kernel
theorem dX10_undo_31 : decode cX10_undo 31 = .ok (.if_icmp .ge 30, 3) := by decide +kernel
theorem dX10_undo_34 : decode cX10_undo 34 = .ok (.aload_n 0, 1) := by decide +kernel
theorem dX10_undo_35 : decode cX10_undo 35 = .ok (.getfield 7, 3) := by decide +kernel
theorem dX10_undo_38 : decode cX10_undo 38 = .ok (.iload_n 1, 1) := by decide +kernel
theorem dX10_undo_39 : decode cX10_undo 39 = .ok (.aload_n 0, 1) := by decide +kernel
theorem dX10_undo_40 : decode cX10_undo 40 = .ok (.getfield 16, 3) := by decide +kernel
theorem dX10_undo_43 : decode cX10_undo 43 = .ok (.sipush 210, 3) := by decide +kernel
theorem dX10_undo_46 : decode cX10_undo 46 = .ok (.aload_n 0, 1) := by decide +kernel
theorem dX10_undo_47 : decode cX10_undo 47 = .ok (.getfield 36, 3) := by decide +kernel
theorem dX10_undo_50 : decode cX10_undo 50 = .ok (.imul, 1) := by decide +kernel
theorem dX10_undo_51 : decode cX10_undo 51 = .ok (.iload_n 1, 1) := by decide +kernel
theorem dX10_undo_52 : decode cX10_undo 52 = .ok (.iadd, 1) := by decide +kernel
theorem dX10_undo_53 : decode cX10_undo 53 = .ok (.iaload, 1) := by decide +kernel
theorem dX10_undo_54 : decode cX10_undo 54 = .ok (.iastore, 1) := by decide +kernel
theorem dX10_undo_55 : decode cX10_undo 55 = .ok (.iinc 1 1, 3) := by decide +kernel
theorem dX10_undo_58 : decode cX10_undo 58 = .ok (.goto (-31), 3) := by decide +kernel
theorem dX10_undo_61 : decode cX10_undo 61 = .ok (.aload_n 0, 1) := by decide +kernel
theorem dX10_undo_62 : decode cX10_undo 62 = .ok (.getfield 36, 3) := by decide +kernel
theorem dX10_undo_65 : decode cX10_undo 65 = .ok (.ireturn, 1) := by decide +kernel
set_option maxRecDepth 20000 in
theorem ggX10_save_X10_in : GoodIn wsX10_save wsX10_in := goodIn_r _ [8] (by decide +kernel) (by decide +kernel)
set_option maxRecDepth 20000 in
theorem gX10_save_X10_in : GoodIn wsX10_save (va_wsS RX10 92 yX10_in wsX10_in) := goodIn_app (goodIn_of _ (by decide +kernel)) ggX10_save_X10_in
theorem dX10_save_0 : decode cX10_save 0 = .ok (.aload_n 0, 1) := by decide +kernel
theorem dX10_save_1 : decode cX10_save 1 = .ok (.iconst 0, 1) := by decide +kernel
theorem dX10_save_2 : decode cX10_save 2 = .ok (.putfield 32, 3) := by decide +kernel
theorem dX10_save_5 : decode cX10_save 5 = .ok (.iload_n 1, 1) := by decide +kernel
theorem dX10_save_6 : decode cX10_save 6 = .ok (.iconst 0, 1) := by decide +kernel
theorem dX10_save_7 : decode cX10_save 7 = .ok (.iconst 1, 1) := by decide +kernel
theorem dX10_save_8 : decode cX10_save 8 = .ok (.invokestatic 92, 3) := by decide +kernel
theorem dX10_save_11 : decode cX10_save 11 = .ok (.ifCond .ne 6, 3) := by decide +kernel
theorem dX10_save_14 : decode cX10_save 14 = .ok (.bipush (-2), 2) := by decide +kernel
theorem dX10_save_16 : decode cX10_save 16 = .ok (.ireturn, 1) := by decide +kernel
theorem dX10_save_17 : decode cX10_save 17 = .ok (.iconst 0, 1) := by decide +kernel
theorem dX10_save_18 : decode cX10_save 18 = .ok (.istore_n 2, 1) := by decide +kernel
theorem dX10_save_19 : decode cX10_save 19 = .ok (.iload_n 2, 1) := by decide +kernel
theorem dX10_save_20 : decode cX10_save 20 = .ok (.sipush 210, 3) := by decide +kernel
theorem dX10_save_23 : decode cX10_save 23 = .ok (.if_icmp .ge 27, 3) := by decide +kernel
theorem dX10_save_26 : decode cX10_save 26 = .ok (.aload_n 0, 1) := by decide +kernel
theorem dX10_save_27 : decode cX10_save 27 = .ok (.getfield 19, 3) := by decide +kernel
theorem dX10_save_30 : decode cX10_save 30 = .ok (.sipush 210, 3) := by decide +kernel
theorem dX10_save_33 : decode cX10_save 33 = .ok (.iload_n 1, 1) := by decide +kernel
theorem dX10_save_34 : decode cX10_save 34 = .ok (.imul, 1) := by decide +kernel
theorem dX10_save_35 : decode cX10_save 35 = .ok (.iload_n 2, 1) := by decide +kernel
theorem dX10_save_36 : decode cX10_save 36 = .ok (.iadd, 1) := by decide +kernel
theorem dX10_save_37 : decode cX10_save 37 = .ok (.aload_n 0, 1) := by decide +kernel
theorem dX10_save_38 : decode cX10_save 38 = .ok (.getfield 7, 3) := by decide +kernel
theorem dX10_save_41 : decode cX10_save 41 = .ok (.iload_n 2, 1) := by decide +kernel
theorem dX10_save_42 : decode cX10_save 42 = .ok (.iaload, 1) := by decide +kernel
theorem dX10_save_43 : decode cX10_save 43 = .ok (.iastore, 1) := by decide +kernel
theorem dX10_save_44 : decode cX10_save 44 = .ok (.iinc 2 1, 3) := by decide +kernel
theorem dX10_save_47 : decode cX10_save 47 = .ok (.goto (-28), 3) := by decide +kernel
theorem dX10_save_50 : decode cX10_save 50 = .ok (.aload_n 0, 1) := by decide +kernel
theorem dX10_save_51 : decode cX10_save 51 = .ok (.getfield 22, 3) := by decide +kernel
theorem dX10_save_54 : decode cX10_save 54 = .ok (.iload_n 1, 1) := by decide +kernel
theorem dX10_save_55 : decode cX10_save 55 = .ok (.iconst 1, 1) := by decide +kernel
theorem dX10_save_56 : decode cX10_save 56 = .ok (.bastore, 1) := by decide +kernel
theorem dX10_save_57 : decode cX10_save 57 = .ok (.aload_n 0, 1) := by decide +kernel
theorem dX10_save_58 : decode cX10_save 58 = .ok (.getfield 7, 3) := by decide +kernel
theorem dX10_save_61 : decode cX10_save 61 = .ok (.bipush 7, 2) := by decide +kernel
theorem dX10_save_63 : decode cX10_save 63 = .ok (.iaload, 1) := by decide +kernel
