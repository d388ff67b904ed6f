theorem dX9_obey_95 : decode cX9_obey 95 = .ok (.iconst 5, 1) := by decide +kernel
theorem dX9_obey_96 : decode cX9_obey 96 = .ok (.iaload, 1) := by decide +kernel
theorem dX9_obey_97 : decode cX9_obey 97 = .ok (.invokevirtual 66, 3) := by decide +kernel
theorem dX9_obey_100 : decode cX9_obey 100 = .ok (.ireturn, 1) := by decide +kernel
theorem dX9_obey_101 : decode cX9_obey 101 = .ok (.aload_n 0, 1) := by decide +kernel
theorem dX9_obey_102 : decode cX9_obey 102 = .ok (.getfield 10, 3) := by decide +kernel
theorem dX9_obey_105 : decode cX9_obey 105 = .ok (.iconst 3, 1) := by decide +kernel
theorem dX9_obey_106 : decode cX9_obey 106 = .ok (.aload_n 1, 1) := by decide +kernel
theorem dX9_obey_107 : decode cX9_obey 107 = .ok (.iconst 0, 1) := by decide +kernel
theorem dX9_obey_108 : decode cX9_obey 108 = .ok (.iaload, 1) := by decide +kernel
theorem dX9_obey_109 : decode cX9_obey 109 = .ok (.invokevirtual 44, 3) := by decide +kernel
theorem dX9_obey_112 : decode cX9_obey 112 = .ok (.ireturn, 1) := by decide +kernel
theorem dX9_obey_113 : decode cX9_obey 113 = .ok (.aload_n 0, 1) := by decide +kernel
theorem dX9_obey_114 : decode cX9_obey 114 = .ok (.getfield 10, 3) := by decide +kernel
theorem dX9_obey_117 : decode cX9_obey 117 = .ok (.aload_n 1, 1) := by decide +kernel
theorem dX9_obey_118 : decode cX9_obey 118 = .ok (.iconst 0, 1) := by decide +kernel
theorem dX9_obey_119 : decode cX9_obey 119 = .ok (.iaload, 1) := by decide +kernel
theorem dX9_obey_120 : decode cX9_obey 120 = .ok (.invokevirtual 84, 3) := by decide +kernel
theorem dX9_obey_123 : decode cX9_obey 123 = .ok (.ireturn, 1) := by decide +kernel
theorem dX9_obey_124 : decode cX9_obey 124 = .ok (.aload_n 0, 1) := by decide +kernel
theorem dX9_obey_125 : decode cX9_obey 125 = .ok (.getfield 10, 3) := by decide +kernel
theorem dX9_obey_128 : decode cX9_obey 128 = .ok (.getfield 74, 3) := by decide +kernel
theorem dX9_obey_131 : decode cX9_obey 131 = .ok (.invokevirtual 78, 3) := by decide +kernel
theorem dX9_obey_134 : decode cX9_obey 134 = .ok (.ireturn, 1) := by decide +kernel
theorem dX9_obey_135 : decode cX9_obey 135 = .ok (.aload_n 0, 1) := by decide +kernel
theorem dX9_obey_136 : decode cX9_obey 136 = .ok (.getfield 10, 3) := by decide +kernel
theorem dX9_obey_139 : decode cX9_obey 139 = .ok (.getfield 62, 3) := by decide +kernel
theorem dX9_obey_142 : decode cX9_obey 142 = .ok (.aload_n 1, 1) := by decide +kernel
theorem dX9_obey_143 : decode cX9_obey 143 = .ok (.iconst 0, 1) := by decide +kernel
theorem dX9_obey_144 : decode cX9_obey 144 = .ok (.iaload, 1) := by decide +kernel
theorem dX9_obey_145 : decode cX9_obey 145 = .ok (.invokevirtual 71, 3) := by decide +kernel
theorem dX9_obey_148 : decode cX9_obey 148 = .ok (.ireturn, 1) := by decide +kernel
theorem dX9_obey_149 : decode cX9_obey 149 = .ok (.bipush (-3), 2) := by decide +kernel
theorem dX9_obey_151 : decode cX9_obey 151 = .ok (.ireturn, 1) := by decide +kernel
theorem dX9_within_0 : decode cX9_within 0 = .ok (.iload_n 0, 1) := by decide +kernel
theorem dX9_within_1 : decode cX9_within 1 = .ok (.iload_n 1, 1) := by decide +kernel
theorem dX9_within_2 : decode cX9_within 2 = .ok (.if_icmp .lt 12, 3) := by decide +kernel
theorem dX9_within_5 : decode cX9_within 5 = .ok (.iload_n 0, 1) := by decide +kernel
theorem dX9_within_6 : decode cX9_within 6 = .ok (.iload_n 2, 1) := by decide +kernel
theorem dX9_within_7 : decode cX9_within 7 = .ok (.if_icmp .gt 7, 3) := by decide +kernel
theorem dX9_within_10 : decode cX9_within 10 = .ok (.iconst 1, 1) := by decide +kernel
theorem dX9_within_11 : decode cX9_within 11 = .ok (.goto 4, 3) := by decide +kernel
theorem dX9_within_14 : decode cX9_within 14 = .ok (.iconst 0, 1) := by decide +kernel
theorem dX9_within_15 : decode cX9_within 15 = .ok (.ireturn, 1) := by decide +kernel
theorem dX9_copyAll_0 : decode cX9_copyAll 0 = .ok (.aload_n 0, 1) := by decide +kernel
theorem dX9_copyAll_1 : decode cX9_copyAll 1 = .ok (.iconst 0, 1) := by decide +kernel
theorem dX9_copyAll_2 : decode cX9_copyAll 2 = .ok (.aload_n 1, 1) := by decide +kernel
theorem dX9_copyAll_3 : decode cX9_copyAll 3 = .ok (.iconst 0, 1) := by decide +kernel
theorem dX9_copyAll_4 : decode cX9_copyAll 4 = .ok (.aload_n 0, 1) := by decide +kernel
theorem dX9_copyAll_5 : decode cX9_copyAll 5 = .ok (.arraylength, 1) := by decide +kernel
theorem dX9_copyAll_6 : decode cX9_copyAll 6 = .ok (.aload_n 1, 1) := by decide +kernel
theorem dX9_copyAll_7 : decode cX9_copyAll 7 = .ok (.arraylength, 1) := by decide +kernel
theorem dX9_copyAll_8 : decode cX9_copyAll 8 = .ok (.invokestatic 257, 3) := by decide +kernel
theorem dX9_copyAll_11 : decode cX9_copyAll 11 = .ok (.invokestatic 262, 3) := by decide +kernel
theorem dX9_copyAll_14 : decode cX9_copyAll 14 = .ok (.return_, 1) := by decide +kernel
theorem dX10_init_0 : decode cX10_init 0 = .ok (.aload_n 0, 1) := by decide +kernel
theorem dX10_init_1 : decode cX10_init 1 = .ok (.invokespecial 1, 3) := by decide +kernel
theorem dX10_init_4 : decode cX10_init 4 = .ok (.aload_n 0, 1) := by decide +kernel
theorem dX10_init_5 : decode cX10_init 5 = .ok (.sipush 210, 3) := by decide +kernel
theorem dX10_init_8 : decode cX10_init 8 = .ok (.newarray .int, 2) := by decide +kernel
theorem dX10_init_10 : decode cX10_init 10 = .ok (.putfield 7, 3) := by decide +kernel
theorem dX10_init_13 : decode cX10_init 13 = .ok (.aload_n 0, 1) := by decide +kernel
theorem dX10_init_14 : decode cX10_init 14 = .ok (.sipush 210, 3) := by decide +kernel
theorem dX10_init_17 : decode cX10_init 17 = .ok (.newarray .int, 2) := by decide +kernel
theorem dX10_init_19 : decode cX10_init 19 = .ok (.putfield 13, 3) := by decide +kernel
theorem dX10_init_22 : decode cX10_init 22 = .ok (.aload_n 0, 1) := by decide +kernel
theorem dX10_init_23 : decode cX10_init 23 = .ok (.sipush 1260, 3) := by decide +kernel
theorem dX10_init_26 : decode cX10_init 26 = .ok (.newarray .int, 2) := by decide +kernel
theorem dX10_init_28 : decode cX10_init 28 = .ok (.putfield 16, 3) := by decide +kernel
theorem dX10_init_31 : decode cX10_init 31 = .ok (.aload_n 0, 1) := by decide +kernel
theorem dX10_init_32 : decode cX10_init 32 = .ok (.sipush 420, 3) := by decide +kernel
theorem dX10_init_35 : decode cX10_init 35 = .ok (.newarray .int, 2) := by decide +kernel
theorem dX10_init_37 : decode cX10_init 37 = .ok (.putfield 19, 3) := by decide +kernel
theorem dX10_init_40 : decode cX10_init 40 = .ok (.aload_n 0, 1) := by decide +kernel
theorem dX10_init_41 : decode cX10_init 41 = .ok (.iconst 2, 1) := by decide +kernel
theorem dX10_init_42 : decode cX10_init 42 = .ok (.newarray .boolean, 2) := by decide +kernel
theorem dX10_init_44 : decode cX10_init 44 = .ok (.putfield 22, 3) := by decide +kernel
theorem dX10_init_47 : decode cX10_init 47 = .ok (.aload_n 0, 1) := by decide +kernel
theorem dX10_init_48 : decode cX10_init 48 = .ok (.bipush 80, 2) := by decide +kernel
theorem dX10_init_50 : decode cX10_init 50 = .ok (.newarray .int, 2) := by decide +kernel
theorem dX10_init_52 : decode cX10_init 52 = .ok (.putfield 26, 3) := by decide +kernel
theorem dX10_init_55 : decode cX10_init 55 = .ok (.aload_n 0, 1) := by decide +kernel
theorem dX10_init_56 : decode cX10_init 56 = .ok (.sipush 294, 3) := by decide +kernel
theorem dX10_init_59 : decode cX10_init 59 = .ok (.newarray .int, 2) := by decide +kernel
theorem dX10_init_61 : decode cX10_init 61 = .ok (.putfield 29, 3) := by decide +kernel
theorem dX10_init_64 : decode cX10_init 64 = .ok (.aload_n 0, 1) := by decide +kernel
theorem dX10_init_65 : decode cX10_init 65 = .ok (.iconst 0, 1) := by decide +kernel
theorem dX10_init_66 : decode cX10_init 66 = .ok (.putfield 32, 3) := by decide +kernel
theorem dX10_init_69 : decode cX10_init 69 = .ok (.aload_n 0, 1) := by decide +kernel
theorem dX10_init_70 : decode cX10_init 70 = .ok (.getfield 7, 3) := by decide +kernel
theorem dX10_init_73 : decode cX10_init 73 = .ok (.iconst 0, 1) := by decide +kernel
theorem dX10_init_74 : decode cX10_init 74 = .ok (.iconst 3, 1) := by decide +kernel
theorem dX10_init_75 : decode cX10_init 75 = .ok (.iastore, 1) := by decide +kernel
theorem dX10_init_76 : decode cX10_init 76 = .ok (.aload_n 0, 1) := by decide +kernel
theorem dX10_init_77 : decode cX10_init 77 = .ok (.getfield 7, 3) := by decide +kernel
theorem dX10_init_80 : decode cX10_init 80 = .ok (.iconst 1, 1) := by decide +kernel
theorem dX10_init_81 : decode cX10_init 81 = .ok (.bipush 20, 2) := by decide +kernel
theorem dX10_init_83 : decode cX10_init 83 = .ok (.iastore, 1) := by decide +kernel
theorem dX10_init_84 : decode cX10_init 84 = .ok (.aload_n 0, 1) := by decide +kernel
theorem dX10_init_85 : decode cX10_init 85 = .ok (.getfield 7, 3) := by decide +kernel
theorem dX10_init_88 : decode cX10_init 88 = .ok (.iconst 2, 1) := by decide +kernel
theorem dX10_init_89 : decode cX10_init 89 = .ok (.bipush 8, 2) := by decide +kernel
theorem dX10_init_91 : decode cX10_init 91 = .ok (.iastore, 1) := by decide +kernel
theorem dX10_init_92 : decode cX10_init 92 = .ok (.aload_n 0, 1) := by decide +kernel
theorem dX10_init_93 : decode cX10_init 93 = .ok (.getfield 7, 3) := by decide +kernel
theorem dX10_init_96 : decode cX10_init 96 = .ok (.iconst 3, 1) := by decide +kernel
theorem dX10_init_97 : decode cX10_init 97 = .ok (.iconst 5, 1) := by decide +kernel
theorem dX10_init_98 : decode cX10_init 98 = .ok (.iastore, 1) := by decide +kernel
theorem dX10_init_99 : decode cX10_init 99 = .ok (.aload_n 0, 1) := by decide +kernel
theorem dX10_init_100 : decode cX10_init 100 = .ok (.getfield 7, 3) := by decide +kernel
theorem dX10_init_103 : decode cX10_init 103 = .ok (.iconst 4, 1) := by decide +kernel
theorem dX10_init_104 : decode cX10_init 104 = .ok (.bipush 50, 2) := by decide +kernel
theorem dX10_init_106 : decode cX10_init 106 = .ok (.iastore, 1) := by decide +kernel
theorem dX10_init_107 : decode cX10_init 107 = .ok (.aload_n 0, 1) := by decide +kernel
theorem dX10_init_108 : decode cX10_init 108 = .ok (.getfield 7, 3) := by decide +kernel
theorem dX10_init_111 : decode cX10_init 111 = .ok (.iconst 5, 1) := by decide +kernel
theorem dX10_init_112 : decode cX10_init 112 = .ok (.iconst 2, 1) := by decide +kernel
theorem dX10_init_113 : decode cX10_init 113 = .ok (.iastore, 1) := by decide +kernel
theorem dX10_init_114 : decode cX10_init 114 = .ok (.return_, 1) := by decide +kernel
theorem dX10_in_0 : decode cX10_in 0 = .ok (.iload_n 0, 1) := by decide +kernel
theorem dX10_in_1 : decode cX10_in 1 = .ok (.iload_n 1, 1) := by decide +kernel
theorem dX10_in_2 : decode cX10_in 2 = .ok (.if_icmp .lt 12, 3) := by decide +kernel
theorem dX10_in_5 : decode cX10_in 5 = .ok (.iload_n 0, 1) := by decide +kernel
theorem dX10_in_6 : decode cX10_in 6 = .ok (.iload_n 2, 1) := by decide +kernel
theorem dX10_in_7 : decode cX10_in 7 = .ok (.if_icmp .gt 7, 3) := by decide +kernel
theorem dX10_in_10 : decode cX10_in 10 = .ok (.iconst 1, 1) := by decide +kernel
theorem dX10_in_11 : decode cX10_in 11 = .ok (.goto 4, 3) := by decide +kernel
theorem dX10_in_14 : decode cX10_in 14 = .ok (.iconst 0, 1) := by decide +kernel
theorem dX10_in_15 : decode cX10_in 15 = .ok (.ireturn, 1) := by decide +kernel
theorem dX10_faceOf_0 : decode cX10_faceOf 0 = .ok (.aload_n 0, 1) := by decide +kernel
theorem dX10_faceOf_1 : decode cX10_faceOf 1 = .ok (.getfield 7, 3) := by decide +kernel
theorem dX10_faceOf_4 : decode cX10_faceOf 4 = .ok (.bipush 26, 2) := by decide +kernel
theorem dX10_faceOf_6 : decode cX10_faceOf 6 = .ok (.iconst 4, 1) := by decide +kernel
theorem dX10_faceOf_7 : decode cX10_faceOf 7 = .ok (.iload_n 1, 1) := by decide +kernel
theorem dX10_faceOf_8 : decode cX10_faceOf 8 = .ok (.imul, 1) := by decide +kernel
theorem dX10_faceOf_9 : decode cX10_faceOf 9 = .ok (.iadd, 1) := by decide +kernel
theorem dX10_faceOf_10 : decode cX10_faceOf 10 = .ok (.iload_n 2, 1) := by decide +kernel
theorem dX10_faceOf_11 : decode cX10_faceOf 11 = .ok (.iadd, 1) := by decide +kernel
theorem dX10_faceOf_12 : decode cX10_faceOf 12 = .ok (.iaload, 1) := by decide +kernel
theorem dX10_faceOf_13 : decode cX10_faceOf 13 = .ok (.ireturn, 1) := by decide +kernel
theorem dX10_truckOf_0 : decode cX10_truckOf 0 = .ok (.aload_n 0, 1) := by decide +kernel
theorem dX10_truckOf_1 : decode cX10_truckOf 1 = .ok (.getfield 7, 3) := by decide +kernel
theorem dX10_truckOf_4 : decode cX10_truckOf 4 = .ok (.bipush 58, 2) := by decide +kernel
theorem dX10_truckOf_6 : decode cX10_truckOf 6 = .ok (.iconst 4, 1) := by decide +kernel
theorem dX10_truckOf_7 : decode cX10_truckOf 7 = .ok (.iload_n 1, 1) := by decide +kernel
theorem dX10_truckOf_8 : decode cX10_truckOf 8 = .ok (.imul, 1) := by decide +kernel
theorem dX10_truckOf_9 : decode cX10_truckOf 9 = .ok (.iadd, 1) := by decide +kernel
theorem dX10_truckOf_10 : decode cX10_truckOf 10 = .ok (.iload_n 2, 1) := by decide +kernel
theorem dX10_truckOf_11 : decode cX10_truckOf 11 = .ok (.iadd, 1) := by decide +kernel
theorem dX10_truckOf_12 : decode cX10_truckOf 12 = .ok (.iaload, 1) := by decide +kernel
theorem dX10_truckOf_13 : decode cX10_truckOf 13 = .ok (.ireturn, 1) := by decide +kernel
theorem dX10_asks_0 : decode cX10_asks 0 = .ok (.aload_n 0, 1) := by decide +kernel
theorem dX10_asks_1 : decode cX10_asks 1 = .ok (.getfield 7, 3) := by decide +kernel
theorem dX10_asks_4 : decode cX10_asks 4 = .ok (.sipush 138, 3) := by decide +kernel
theorem dX10_asks_7 : decode cX10_asks 7 = .ok (.bipush 6, 2) := by decide +kernel
theorem dX10_asks_9 : decode cX10_asks 9 = .ok (.iload_n 1, 1) := by decide +kernel
theorem dX10_asks_10 : decode cX10_asks 10 = .ok (.imul, 1) := by decide +kernel
theorem dX10_asks_11 : decode cX10_asks 11 = .ok (.iadd, 1) := by decide +kernel
theorem dX10_asks_12 : decode cX10_asks 12 = .ok (.iload_n 2, 1) := by decide +kernel
theorem dX10_asks_13 : decode cX10_asks 13 = .ok (.iadd, 1) := by decide +kernel
theorem dX10_asks_14 : decode cX10_asks 14 = .ok (.iaload, 1) := by decide +kernel
theorem dX10_asks_15 : decode cX10_asks 15 = .ok (.ireturn, 1) := by decide +kernel
theorem dX10_records_0 : decode cX10_records 0 = .ok (.aload_n 0, 1) := by decide +kernel
theorem dX10_records_1 : decode cX10_records 1 = .ok (.getfield 36, 3) := by decide +kernel
theorem dX10_records_4 : decode cX10_records 4 = .ok (.bipush 6, 2) := by decide +kernel
theorem dX10_records_6 : decode cX10_records 6 = .ok (.if_icmp .ne 44, 3) := by decide +kernel
theorem dX10_records_9 : decode cX10_records 9 = .ok (.iconst 0, 1) := by decide +kernel
theorem dX10_records_10 : decode cX10_records 10 = .ok (.istore_n 1, 1) := by decide +kernel
theorem dX10_records_11 : decode cX10_records 11 = .ok (.iload_n 1, 1) := by decide +kernel
theorem dX10_records_12 : decode cX10_records 12 = .ok (.sipush 1050, 3) := by decide +kernel
theorem dX10_records_15 : decode cX10_records 15 = .ok (.if_icmp .ge 25, 3) := by decide +kernel
theorem dX10_records_18 : decode cX10_records 18 = .ok (.aload_n 0, 1) := by decide +kernel
theorem dX10_records_19 : decode cX10_records 19 = .ok (.getfield 16, 3) := by decide +kernel
theorem dX10_records_22 : decode cX10_records 22 = .ok (.iload_n 1, 1) := by decide +kernel
theorem dX10_records_23 : decode cX10_records 23 = .ok (.aload_n 0, 1) := by decide +kernel
theorem dX10_records_24 : decode cX10_records 24 = .ok (.getfield 16, 3) := by decide +kernel
theorem dX10_records_27 : decode cX10_records 27 = .ok (.iload_n 1, 1) := by decide +kernel
theorem dX10_records_28 : decode cX10_records 28 = .ok (.sipush 210, 3) := by decide +kernel
theorem dX10_records_31 : decode cX10_records 31 = .ok (.iadd, 1) := by decide +kernel
theorem dX10_records_32 : decode cX10_records 32 = .ok (.iaload, 1) := by decide +kernel
theorem dX10_records_33 : decode cX10_records 33 = .ok (.iastore, 1) := by decide +kernel
theorem dX10_records_34 : decode cX10_records 34 = .ok (.iinc 1 1, 3) := by decide +kernel
theorem dX10_records_37 : decode cX10_records 37 = .ok (.goto (-26), 3) := by decide +kernel
theorem dX10_records_40 : decode cX10_records 40 = .ok (.aload_n 0, 1) := by decide +kernel
theorem dX10_records_41 : decode cX10_records 41 = .ok (.dup, 1) := by decide +kernel
theorem dX10_records_42 : decode cX10_records 42 = .ok (.getfield 36, 3) := by decide +kernel
theorem dX10_records_45 : decode cX10_records 45 = .ok (.iconst 1, 1) := by decide +kernel
theorem dX10_records_46 : decode cX10_records 46 = .ok (.isub, 1) := by decide +kernel
theorem dX10_records_47 : decode cX10_records 47 = .ok (.putfield 36, 3) := by decide +kernel
theorem dX10_records_50 : decode cX10_records 50 = .ok (.iconst 0, 1) := by decide +kernel
theorem dX10_records_51 : decode cX10_records 51 = .ok (.istore_n 1, 1) := by decide +kernel
theorem dX10_records_52 : decode cX10_records 52 = .ok (.iload_n 1, 1) := by decide +kernel
theorem dX10_records_53 : decode cX10_records 53 = .ok (.sipush 210, 3) := by decide +kernel
theorem dX10_records_56 : decode cX10_records 56 = .ok (.if_icmp .ge 30, 3) := by decide +kernel
theorem dX10_records_59 : decode cX10_records 59 = .ok (.aload_n 0, 1) := by decide +kernel
theorem dX10_records_60 : decode cX10_records 60 = .ok (.getfield 16, 3) := by decide +kernel
theorem dX10_records_63 : decode cX10_records 63 = .ok (.sipush 210, 3) := by decide +kernel
theorem dX10_records_66 : decode cX10_records 66 = .ok (.aload_n 0, 1) := by decide +kernel
theorem dX10_records_67 : decode cX10_records 67 = .ok (.getfield 36, 3) := by decide +kernel
theorem dX10_records_70 : decode cX10_records 70 = .ok (.imul, 1) := by decide +kernel
theorem dX10_records_71 : decode cX10_records 71 = .ok (.iload_n 1, 1) := by decide +kernel
theorem dX10_records_72 : decode cX10_records 72 = .ok (.iadd, 1) := by decide +kernel
theorem dX10_records_73 : decode cX10_records 73 = .ok (.aload_n 0, 1) := by decide +kernel
theorem dX10_records_74 : decode cX10_records 74 = .ok (.getfield 7, 3) := by decide +kernel
theorem dX10_records_77 : decode cX10_records 77 = .ok (.iload_n 1, 1) := by decide +kernel
theorem dX10_records_78 : decode cX10_records 78 = .ok (.iaload, 1) := by decide +kernel
theorem dX10_records_79 : decode cX10_records 79 = .ok (.iastore, 1) := by decide +kernel
theorem dX10_records_80 : decode cX10_records 80 = .ok (.iinc 1 1, 3) := by decide +kernel
theorem dX10_records_83 : decode cX10_records 83 = .ok (.goto (-31), 3) := by decide +kernel
theorem dX10_records_86 : decode cX10_records 86 = .ok (.aload_n 0, 1) := by decide +kernel
theorem dX10_records_87 : decode cX10_records 87 = .ok (.dup, 1) := by decide +kernel
theorem dX10_records_88 : decode cX10_records 88 = .ok (.getfield 36, 3) := by decide +kernel
theorem dX10_records_91 : decode cX10_records 91 = .ok (.iconst 1, 1) := by decide +kernel
theorem dX10_records_92 : decode cX10_records 92 = .ok (.iadd, 1) := by decide +kernel
theorem dX10_records_93 : decode cX10_records 93 = .ok (.putfield 36, 3) := by decide +kernel
theorem dX10_records_96 : decode cX10_records 96 = .ok (.return_, 1) := by decide +kernel
theorem dX10_putAside_0 : decode cX10_putAside 0 = .ok (.iconst 0, 1) := by decide +kernel
theorem dX10_putAside_1 : decode cX10_putAside 1 = .ok (.istore_n 1, 1) := by decide +kernel
theorem dX10_putAside_2 : decode cX10_putAside 2 = .ok (.iload_n 1, 1) := by decide +kernel
theorem dX10_putAside_3 : decode cX10_putAside 3 = .ok (.sipush 210, 3) := by decide +kernel
theorem dX10_putAside_6 : decode cX10_putAside 6 = .ok (.if_icmp .ge 21, 3) := by decide +kernel
theorem dX10_putAside_9 : decode cX10_putAside 9 = .ok (.aload_n 0, 1) := by decide +kernel
theorem dX10_putAside_10 : decode cX10_putAside 10 = .ok (.getfield 13, 3) := by decide +kernel
theorem dX10_putAside_13 : decode cX10_putAside 13 = .ok (.iload_n 1, 1) := by decide +kernel
theorem dX10_putAside_14 : decode cX10_putAside 14 = .ok (.aload_n 0, 1) := by decide +kernel
theorem dX10_putAside_15 : decode cX10_putAside 15 = .ok (.getfield 7, 3) := by decide +kernel
theorem dX10_putAside_18 : decode cX10_putAside 18 = .ok (.iload_n 1, 1) := by decide +kernel
theorem dX10_putAside_19 : decode cX10_putAside 19 = .ok (.iaload, 1) := by decide +kernel
theorem dX10_putAside_20 : decode cX10_putAside 20 = .ok (.iastore, 1) := by decide +kernel
theorem dX10_putAside_21 : decode cX10_putAside 21 = .ok (.iinc 1 1, 3) := by decide +kernel
theorem dX10_putAside_24 : decode cX10_putAside 24 = .ok (.goto (-22), 3) := by decide +kernel
theorem dX10_putAside_27 : decode cX10_putAside 27 = .ok (.return_, 1) := by decide +kernel
theorem dX10_takeBack_0 : decode cX10_takeBack 0 = .ok (.iconst 0, 1) := by decide +kernel
theorem dX10_takeBack_1 : decode cX10_takeBack 1 = .ok (.istore_n 1, 1) := by decide +kernel
theorem dX10_takeBack_2 : decode cX10_takeBack 2 = .ok (.iload_n 1, 1) := by decide +kernel
theorem dX10_takeBack_3 : decode cX10_takeBack 3 = .ok (.sipush 210, 3) := by decide +kernel
theorem dX10_takeBack_6 : decode cX10_takeBack 6 = .ok (.if_icmp .ge 21, 3) := by decide +kernel
theorem dX10_takeBack_9 : decode cX10_takeBack 9 = .ok (.aload_n 0, 1) := by decide +kernel
theorem dX10_takeBack_10 : decode cX10_takeBack 10 = .ok (.getfield 7, 3) := by decide +kernel
theorem dX10_takeBack_13 : decode cX10_takeBack 13 = .ok (.iload_n 1, 1) := by decide +kernel
theorem dX10_takeBack_14 : decode cX10_takeBack 14 = .ok (.aload_n 0, 1) := by decide +kernel
theorem dX10_takeBack_15 : decode cX10_takeBack 15 = .ok (.getfield 13, 3) := by decide +kernel
theorem dX10_takeBack_18 : decode cX10_takeBack 18 = .ok (.iload_n 1, 1) := by decide +kernel
theorem dX10_takeBack_19 : decode cX10_takeBack 19 = .ok (.iaload, 1) := by decide +kernel
theorem dX10_takeBack_20 : decode cX10_takeBack 20 = .ok (.iastore, 1) := by decide +kernel
theorem dX10_takeBack_21 : decode cX10_takeBack 21 = .ok (.iinc 1 1, 3) := by decide +kernel
theorem dX10_takeBack_24 : decode cX10_takeBack 24 = .ok (.goto (-22), 3) := by decide +kernel
theorem dX10_takeBack_27 : decode cX10_takeBack 27 = .ok (.return_, 1) := by decide +kernel
theorem dX10_up_0 : decode cX10_up 0 = .ok (.iload_n 0, 1) := by decide +kernel
theorem dX10_up_1 : decode cX10_up 1 = .ok (.iload_n 1, 1) := by decide +kernel
theorem dX10_up_2 : decode cX10_up 2 = .ok (.imul, 1) := by decide +kernel
theorem dX10_up_3 : decode cX10_up 3 = .ok (.bipush 99, 2) := by decide +kernel
theorem dX10_up_5 : decode cX10_up 5 = .ok (.iadd, 1) := by decide +kernel
theorem dX10_up_6 : decode cX10_up 6 = .ok (.bipush 100, 2) := by decide +kernel
theorem dX10_up_8 : decode cX10_up 8 = .ok (.idiv, 1) := by decide +kernel
theorem dX10_up_9 : decode cX10_up 9 = .ok (.ireturn, 1) := by decide +kernel
set_option maxRecDepth 20000 in
theorem ggX10_hasSieve_X10_asks : GoodIn wsX10_hasSieve wsX10_asks := goodIn_r _ [5, 6, 10, 11, 12, 13, 14, 15, 16, 17, 18, 19, 20, 21, 22, 23, 24] (by decide +kernel) (by decide +kernel)
set_option maxRecDepth 20000 in
theorem gX10_hasSieve_X10_asks : GoodIn wsX10_hasSieve (wsV RX10 39 RX10 yX10_asks wsX10_asks) := goodIn_app (goodIn_of _ (by decide +kernel)) ggX10_hasSieve_X10_asks
set_option maxRecDepth 20000 in
theorem ggX10_hasSieve_X10_up : GoodIn wsX10_hasSieve wsX10_up := goodIn_r _ [9] (by decide +kernel) (by decide +kernel)
set_option maxRecDepth 20000 in
theorem gX10_hasSieve_X10_up : GoodIn wsX10_hasSieve (va_wsS RX10 43 yX10_up wsX10_up) := goodIn_app (goodIn_of _ (by decide +kernel)) ggX10_hasSieve_X10_up
theorem dX10_hasSieve_0 : decode cX10_hasSieve 0 = .ok (.aload_n 0, 1) := by decide +kernel
theorem dX10_hasSieve_1 : decode cX10_hasSieve 1 = .ok (.iload_n 1, 1) := by decide +kernel
theorem dX10_hasSieve_2 : decode cX10_hasSieve 2 = .ok (.iconst 0, 1) := by decide +kernel
theorem dX10_hasSieve_3 : decode cX10_hasSieve 3 = .ok (.invokevirtual 39, 3) := by decide +kernel
theorem dX10_hasSieve_6 : decode cX10_hasSieve 6 = .ok (.istore_n 2, 1) := by decide +kernel
theorem dX10_hasSieve_7 : decode cX10_hasSieve 7 = .ok (.aload_n 0, 1) := by decide +kernel
theorem dX10_hasSieve_8 : decode cX10_hasSieve 8 = .ok (.iload_n 1, 1) := by decide +kernel
theorem dX10_hasSieve_9 : decode cX10_hasSieve 9 = .ok (.iconst 1, 1) := by decide +kernel
theorem dX10_hasSieve_10 : decode cX10_hasSieve 10 = .ok (.invokevirtual 39, 3) := by decide +kernel
theorem dX10_hasSieve_13 : decode cX10_hasSieve 13 = .ok (.iload_n 2, 1) := by decide +kernel
theorem dX10_hasSieve_14 : decode cX10_hasSieve 14 = .ok (.invokestatic 43, 3) := by decide +kernel
theorem dX10_hasSieve_17 : decode cX10_hasSieve 17 = .ok (.istore_n 3, 1) := by decide +kernel
theorem dX10_hasSieve_18 : decode cX10_hasSieve 18 = .ok (.aload_n 0, 1) := by decide +kernel
theorem dX10_hasSieve_19 : decode cX10_hasSieve 19 = .ok (.iload_n 1, 1) := by decide +kernel
theorem dX10_hasSieve_20 : decode cX10_hasSieve 20 = .ok (.iconst 3, 1) := by decide +kernel
theorem dX10_hasSieve_21 : decode cX10_hasSieve 21 = .ok (.invokevirtual 39, 3) := by decide +kernel
theorem dX10_hasSieve_24 : decode cX10_hasSieve 24 = .ok (.iload_n 2, 1) := by decide +kernel
theorem dX10_hasSieve_25 : decode cX10_hasSieve 25 = .ok (.invokestatic 43, 3) := by decide +kernel
theorem dX10_hasSieve_28 : decode cX10_hasSieve 28 = .ok (.istore 4, 2) := by decide +kernel
theorem dX10_hasSieve_30 : decode cX10_hasSieve 30 = .ok (.iload_n 3, 1) := by decide +kernel
theorem dX10_hasSieve_31 : decode cX10_hasSieve 31 = .ok (.aload_n 0, 1) := by decide +kernel
theorem dX10_hasSieve_32 : decode cX10_hasSieve 32 = .ok (.iload_n 1, 1) := by decide +kernel
theorem dX10_hasSieve_33 : decode cX10_hasSieve 33 = .ok (.iconst 2, 1) := by decide +kernel
theorem dX10_hasSieve_34 : decode cX10_hasSieve 34 = .ok (.invokevirtual 39, 3) := by decide +kernel
theorem dX10_hasSieve_37 : decode cX10_hasSieve 37 = .ok (.iload_n 2, 1) := by decide +kernel
theorem dX10_hasSieve_38 : decode cX10_hasSieve 38 = .ok (.imul, 1) := by decide +kernel
theorem dX10_hasSieve_39 : decode cX10_hasSieve 39 = .ok (.bipush 100, 2) := by decide +kernel
theorem dX10_hasSieve_41 : decode cX10_hasSieve 41 = .ok (.idiv, 1) := by decide +kernel
theorem dX10_hasSieve_42 : decode cX10_hasSieve 42 = .ok (.if_icmp .gt 7, 3) := by decide +kernel
theorem dX10_hasSieve_45 : decode cX10_hasSieve 45 = .ok (.iconst 1, 1) := by decide +kernel
theorem dX10_hasSieve_46 : decode cX10_hasSieve 46 = .ok (.goto 4, 3) := by decide +kernel
theorem dX10_hasSieve_49 : decode cX10_hasSieve 49 = .ok (.iconst 0, 1) := by decide +kernel
theorem dX10_hasSieve_50 : decode cX10_hasSieve 50 = .ok (.istore 5, 2) := by decide +kernel
theorem dX10_hasSieve_52 : decode cX10_hasSieve 52 = .ok (.iload 5, 2) := by decide +kernel
theorem dX10_hasSieve_54 : decode cX10_hasSieve 54 = .ok (.ifCond .eq 31, 3) := by decide +kernel
theorem dX10_hasSieve_57 : decode cX10_hasSieve 57 = .ok (.iload 4, 2) := by decide +kernel
theorem dX10_hasSieve_59 : decode cX10_hasSieve 59 = .ok (.aload_n 0, 1) := by decide +kernel
theorem dX10_hasSieve_60 : decode cX10_hasSieve 60 = .ok (.iload_n 1, 1) := by decide +kernel
theorem dX10_hasSieve_61 : decode cX10_hasSieve 61 = .ok (.iconst 4, 1) := by decide +kernel
theorem dX10_hasSieve_62 : decode cX10_hasSieve 62 = .ok (.invokevirtual 39, 3) := by decide +kernel
theorem dX10_hasSieve_65 : decode cX10_hasSieve 65 = .ok (.iload_n 2, 1) := by decide +kernel
theorem dX10_hasSieve_66 : decode cX10_hasSieve 66 = .ok (.imul, 1) := by decide +kernel
theorem dX10_hasSieve_67 : decode cX10_hasSieve 67 = .ok (.bipush 100, 2) := by decide +kernel
theorem dX10_hasSieve_69 : decode cX10_hasSieve 69 = .ok (.idiv, 1) := by decide +kernel
theorem dX10_hasSieve_70 : decode cX10_hasSieve 70 = .ok (.if_icmp .gt 15, 3) := by decide +kernel
theorem dX10_hasSieve_73 : decode cX10_hasSieve 73 = .ok (.iload_n 3, 1) := by decide +kernel
theorem dX10_hasSieve_74 : decode cX10_hasSieve 74 = .ok (.iload 4, 2) := by decide +kernel
theorem dX10_hasSieve_76 : decode cX10_hasSieve 76 = .ok (.iadd, 1) := by decide +kernel
theorem dX10_hasSieve_77 : decode cX10_hasSieve 77 = .ok (.iload_n 2, 1) := by decide +kernel
theorem dX10_hasSieve_78 : decode cX10_hasSieve 78 = .ok (.if_icmp .gt 7, 3) := by decide +kernel
theorem dX10_hasSieve_81 : decode cX10_hasSieve 81 = .ok (.iconst 1, 1) := by decide +kernel
theorem dX10_hasSieve_82 : decode cX10_hasSieve 82 = .ok (.goto 4, 3) := by decide +kernel
theorem dX10_hasSieve_85 : decode cX10_hasSieve 85 = .ok (.iconst 0, 1) := by decide +kernel
theorem dX10_hasSieve_86 : decode cX10_hasSieve 86 = .ok (.ireturn, 1) := by decide +kernel
set_option maxRecDepth 20000 in
theorem ggX10_blends_X10_asks : GoodIn wsX10_blends wsX10_asks := goodIn_r _ [8, 1, 12, 13, 14, 15, 16, 17, 18, 19, 20, 21, 22, 23, 24, 25, 26] (by decide +kernel) (by decide +kernel)
set_option maxRecDepth 20000 in
theorem gX10_blends_X10_asks : GoodIn wsX10_blends (wsV RX10 39 RX10 yX10_asks wsX10_asks) := goodIn_app (goodIn_of _ (by decide +kernel)) ggX10_blends_X10_asks
set_option maxRecDepth 20000 in
theorem ggX10_blends_X10_up : GoodIn wsX10_blends wsX10_up := goodIn_r _ [11] (by decide +kernel) (by decide +kernel)
set_option maxRecDepth 20000 in
theorem gX10_blends_X10_up : GoodIn wsX10_blends (va_wsS RX10 43 yX10_up wsX10_up) := goodIn_app (goodIn_of _ (by decide +kernel)) ggX10_blends_X10_up
theorem dX10_blends_0 : decode cX10_blends 0 = .ok (.aload_n 0, 1) := by decide +kernel
theorem dX10_blends_1 : decode cX10_blends 1 = .ok (.iload_n 1, 1) := by decide +kernel
theorem dX10_blends_2 : decode cX10_blends 2 = .ok (.iconst 0, 1) := by decide +kernel
theorem dX10_blends_3 : decode cX10_blends 3 = .ok (.invokevirtual 39, 3) := by decide +kernel
theorem dX10_blends_6 : decode cX10_blends 6 = .ok (.istore_n 2, 1) := by decide +kernel
theorem dX10_blends_7 : decode cX10_blends 7 = .ok (.aload_n 0, 1) := by decide +kernel
theorem dX10_blends_8 : decode cX10_blends 8 = .ok (.iload_n 1, 1) := by decide +kernel
theorem dX10_blends_9 : decode cX10_blends 9 = .ok (.iconst 3, 1) := by decide +kernel
theorem dX10_blends_10 : decode cX10_blends 10 = .ok (.invokevirtual 39, 3) := by decide +kernel
theorem dX10_blends_13 : decode cX10_blends 13 = .ok (.iload_n 2, 1) := by decide +kernel
theorem dX10_blends_14 : decode cX10_blends 14 = .ok (.invokestatic 43, 3) := by decide +kernel
theorem dX10_blends_17 : decode cX10_blends 17 = .ok (.istore_n 3, 1) := by decide +kernel
theorem dX10_blends_18 : decode cX10_blends 18 = .ok (.aload_n 0, 1) := by decide +kernel
theorem dX10_blends_19 : decode cX10_blends 19 = .ok (.iload_n 1, 1) := by decide +kernel
theorem dX10_blends_20 : decode cX10_blends 20 = .ok (.iconst 2, 1) := by decide +kernel
theorem dX10_blends_21 : decode cX10_blends 21 = .ok (.invokevirtual 39, 3) := by decide +kernel
theorem dX10_blends_24 : decode cX10_blends 24 = .ok (.iload_n 2, 1) := by decide +kernel
theorem dX10_blends_25 : decode cX10_blends 25 = .ok (.imul, 1) := by decide +kernel
theorem dX10_blends_26 : decode cX10_blends 26 = .ok (.bipush 100, 2) := by decide +kernel
theorem dX10_blends_28 : decode cX10_blends 28 = .ok (.idiv, 1) := by decide +kernel
theorem dX10_blends_29 : decode cX10_blends 29 = .ok (.istore 4, 2) := by decide +kernel
theorem dX10_blends_31 : decode cX10_blends 31 = .ok (.iload 4, 2) := by decide +kernel
theorem dX10_blends_33 : decode cX10_blends 33 = .ok (.aload_n 0, 1) := by decide +kernel
theorem dX10_blends_34 : decode cX10_blends 34 = .ok (.getfield 7, 3) := by decide +kernel
theorem dX10_blends_37 : decode cX10_blends 37 = .ok (.bipush 14, 2) := by decide +kernel
theorem dX10_blends_39 : decode cX10_blends 39 = .ok (.iaload, 1) := by decide +kernel
theorem dX10_blends_40 : decode cX10_blends 40 = .ok (.if_icmp .ge 8, 3) := by decide +kernel
theorem dX10_blends_43 : decode cX10_blends 43 = .ok (.iload 4, 2) := by decide +kernel
theorem dX10_blends_45 : decode cX10_blends 45 = .ok (.goto 10, 3) := by decide +kernel
theorem dX10_blends_48 : decode cX10_blends 48 = .ok (.aload_n 0, 1) := by decide +kernel
theorem dX10_blends_49 : decode cX10_blends 49 = .ok (.getfield 7, 3) := by decide +kernel
theorem dX10_blends_52 : decode cX10_blends 52 = .ok (.bipush 14, 2) := by decide +kernel
theorem dX10_blends_54 : decode cX10_blends 54 = .ok (.iaload, 1) := by decide +kernel
theorem dX10_blends_55 : decode cX10_blends 55 = .ok (.istore 4, 2) := by decide +kernel
theorem dX10_blends_57 : decode cX10_blends 57 = .ok (.aload_n 0, 1) := by decide +kernel
theorem dX10_blends_58 : decode cX10_blends 58 = .ok (.iload_n 1, 1) := by decide +kernel
theorem dX10_blends_59 : decode cX10_blends 59 = .ok (.iconst 4, 1) := by decide +kernel
theorem dX10_blends_60 : decode cX10_blends 60 = .ok (.invokevirtual 39, 3) := by decide +kernel
theorem dX10_blends_63 : decode cX10_blends 63 = .ok (.iload_n 2, 1) := by decide +kernel
theorem dX10_blends_64 : decode cX10_blends 64 = .ok (.imul, 1) := by decide +kernel
theorem dX10_blends_65 : decode cX10_blends 65 = .ok (.bipush 100, 2) := by decide +kernel
theorem dX10_blends_67 : decode cX10_blends 67 = .ok (.idiv, 1) := by decide +kernel
theorem dX10_blends_68 : decode cX10_blends 68 = .ok (.istore 5, 2) := by decide +kernel
theorem dX10_blends_70 : decode cX10_blends 70 = .ok (.iload 5, 2) := by decide +kernel
theorem dX10_blends_72 : decode cX10_blends 72 = .ok (.iload_n 3, 1) := by decide +kernel
theorem dX10_blends_73 : decode cX10_blends 73 = .ok (.if_icmp .lt 99, 3) := by decide +kernel
theorem dX10_blends_76 : decode cX10_blends 76 = .ok (.iload_n 2, 1) := by decide +kernel
theorem dX10_blends_77 : decode cX10_blends 77 = .ok (.iload 5, 2) := by decide +kernel
theorem dX10_blends_79 : decode cX10_blends 79 = .ok (.isub, 1) := by decide +kernel
theorem dX10_blends_80 : decode cX10_blends 80 = .ok (.istore 6, 2) := by decide +kernel
theorem dX10_blends_82 : decode cX10_blends 82 = .ok (.aload_n 0, 1) := by decide +kernel
theorem dX10_blends_83 : decode cX10_blends 83 = .ok (.iload_n 1, 1) := by decide +kernel
theorem dX10_blends_84 : decode cX10_blends 84 = .ok (.iconst 1, 1) := by decide +kernel
theorem dX10_blends_85 : decode cX10_blends 85 = .ok (.invokevirtual 39, 3) := by decide +kernel
theorem dX10_blends_88 : decode cX10_blends 88 = .ok (.iload_n 2, 1) := by decide +kernel
theorem dX10_blends_89 : decode cX10_blends 89 = .ok (.invokestatic 43, 3) := by decide +kernel
theorem dX10_blends_92 : decode cX10_blends 92 = .ok (.istore 7, 2) := by decide +kernel
theorem dX10_blends_94 : decode cX10_blends 94 = .ok (.iload 6, 2) := by decide +kernel
theorem dX10_blends_96 : decode cX10_blends 96 = .ok (.aload_n 0, 1) := by decide +kernel
theorem dX10_blends_97 : decode cX10_blends 97 = .ok (.getfield 7, 3) := by decide +kernel
theorem dX10_blends_100 : decode cX10_blends 100 = .ok (.bipush 15, 2) := by decide +kernel
theorem dX10_blends_102 : decode cX10_blends 102 = .ok (.iaload, 1) := by decide +kernel
theorem dX10_blends_103 : decode cX10_blends 103 = .ok (.isub, 1) := by decide +kernel
theorem dX10_blends_104 : decode cX10_blends 104 = .ok (.iload 7, 2) := by decide +kernel
theorem dX10_blends_106 : decode cX10_blends 106 = .ok (.if_icmp .le 16, 3) := by decide +kernel
theorem dX10_blends_109 : decode cX10_blends 109 = .ok (.iload 6, 2) := by decide +kernel
theorem dX10_blends_111 : decode cX10_blends 111 = .ok (.aload_n 0, 1) := by decide +kernel
theorem dX10_blends_112 : decode cX10_blends 112 = .ok (.getfield 7, 3) := by decide +kernel
theorem dX10_blends_115 : decode cX10_blends 115 = .ok (.bipush 15, 2) := by decide +kernel
theorem dX10_blends_117 : decode cX10_blends 117 = .ok (.iaload, 1) := by decide +kernel
theorem dX10_blends_118 : decode cX10_blends 118 = .ok (.isub, 1) := by decide +kernel
theorem dX10_blends_119 : decode cX10_blends 119 = .ok (.goto 5, 3) := by decide +kernel
theorem dX10_blends_122 : decode cX10_blends 122 = .ok (.iload 7, 2) := by decide +kernel
theorem dX10_blends_124 : decode cX10_blends 124 = .ok (.istore 8, 2) := by decide +kernel
theorem dX10_blends_126 : decode cX10_blends 126 = .ok (.iload 5, 2) := by decide +kernel
theorem dX10_blends_128 : decode cX10_blends 128 = .ok (.aload_n 0, 1) := by decide +kernel
theorem dX10_blends_129 : decode cX10_blends 129 = .ok (.getfield 7, 3) := by decide +kernel
theorem dX10_blends_132 : decode cX10_blends 132 = .ok (.bipush 16, 2) := by decide +kernel
theorem dX10_blends_134 : decode cX10_blends 134 = .ok (.iaload, 1) := by decide +kernel
theorem dX10_blends_135 : decode cX10_blends 135 = .ok (.if_icmp .gt 31, 3) := by decide +kernel
theorem dX10_blends_138 : decode cX10_blends 138 = .ok (.iload 8, 2) := by decide +kernel
theorem dX10_blends_140 : decode cX10_blends 140 = .ok (.iload 4, 2) := by decide +kernel
theorem dX10_blends_142 : decode cX10_blends 142 = .ok (.if_icmp .gt 24, 3) := by decide +kernel
theorem dX10_blends_145 : decode cX10_blends 145 = .ok (.iload 8, 2) := by decide +kernel
theorem dX10_blends_147 : decode cX10_blends 147 = .ok (.iload 6, 2) := by decide +kernel
theorem dX10_blends_149 : decode cX10_blends 149 = .ok (.if_icmp .gt 17, 3) := by decide +kernel
theorem dX10_blends_152 : decode cX10_blends 152 = .ok (.aload_n 0, 1) := by decide +kernel
theorem dX10_blends_153 : decode cX10_blends 153 = .ok (.iload 8, 2) := by decide +kernel
theorem dX10_blends_155 : decode cX10_blends 155 = .ok (.putfield 46, 3) := by decide +kernel
theorem dX10_blends_158 : decode cX10_blends 158 = .ok (.aload_n 0, 1) := by decide +kernel
theorem dX10_blends_159 : decode cX10_blends 159 = .ok (.iload 5, 2) := by decide +kernel
theorem dX10_blends_161 : decode cX10_blends 161 = .ok (.putfield 49, 3) := by decide +kernel
theorem dX10_blends_164 : decode cX10_blends 164 = .ok (.iconst 1, 1) := by decide +kernel
theorem dX10_blends_165 : decode cX10_blends 165 = .ok (.ireturn, 1) := by decide +kernel
theorem dX10_blends_166 : decode cX10_blends 166 = .ok (.iinc 5 (-1), 3) := by decide +kernel
theorem dX10_blends_169 : decode cX10_blends 169 = .ok (.goto (-99), 3) := by decide +kernel
theorem dX10_blends_172 : decode cX10_blends 172 = .ok (.iconst 0, 1) := by decide +kernel
theorem dX10_blends_173 : decode cX10_blends 173 = .ok (.ireturn, 1) := by decide +kernel
set_option maxRecDepth 20000 in
theorem ggX10_reason_X10_asks : GoodIn wsX10_reason wsX10_asks := goodIn_r _ [6, 1, 20, 21, 22, 23, 24, 25, 26, 27, 28, 29, 30, 31, 32, 33, 34] (by decide +kernel) (by decide +kernel)
set_option maxRecDepth 20000 in
theorem gX10_reason_X10_asks : GoodIn wsX10_reason (wsV RX10 39 RX10 yX10_asks wsX10_asks) := goodIn_app (goodIn_of _ (by decide +kernel)) ggX10_reason_X10_asks
set_option maxRecDepth 20000 in
theorem ggX10_reason_X10_hasSieve : GoodIn wsX10_reason wsX10_hasSieve := goodIn_r _ [10, 2, 3, 4, 5, 6, 1, 11, 12, 13, 20, 21, 22, 23, 24, 25, 26, 27, 28, 29, 30, 31, 32, 33, 34] (by decide +kernel) (by decide +kernel)
set_option maxRecDepth 20000 in
theorem gX10_reason_X10_hasSieve : GoodIn wsX10_reason (wsV RX10 52 RX10 yX10_hasSieve wsX10_hasSieve) := goodIn_app (goodIn_of _ (by decide +kernel)) ggX10_reason_X10_hasSieve
set_option maxRecDepth 20000 in
theorem ggX10_reason_X10_up : GoodIn wsX10_reason wsX10_up := goodIn_r _ [13] (by decide +kernel) (by decide +kernel)
set_option maxRecDepth 20000 in
theorem gX10_reason_X10_up : GoodIn wsX10_reason (va_wsS RX10 43 yX10_up wsX10_up) := goodIn_app (goodIn_of _ (by decide +kernel)) ggX10_reason_X10_up
set_option maxRecDepth 20000 in
theorem ggX10_reason_X10_blends : GoodIn wsX10_reason wsX10_blends := goodIn_r _ [17, 1, 18, 19, 2, 3, 4, 5, 6, 11, 12, 13, 20, 21, 22, 23, 24, 25, 26, 27, 28, 29, 30, 31, 32, 33, 34] (by decide +kernel) (by decide +kernel)
set_option maxRecDepth 20000 in
theorem gX10_reason_X10_blends : GoodIn wsX10_reason (wsV RX10 56 RX10 yX10_blends wsX10_blends) := goodIn_app (goodIn_of _ (by decide +kernel)) ggX10_reason_X10_blends
theorem dX10_reason_0 : decode cX10_reason 0 = .ok (.aload_n 0, 1) := by decide +kernel
theorem dX10_reason_1 : decode cX10_reason 1 = .ok (.iload_n 1, 1) := by decide +kernel
theorem dX10_reason_2 : decode cX10_reason 2 = .ok (.iconst 0, 1) := by decide +kernel
theorem dX10_reason_3 : decode cX10_reason 3 = .ok (.invokevirtual 39, 3) := by decide +kernel
theorem dX10_reason_6 : decode cX10_reason 6 = .ok (.istore_n 2, 1) := by decide +kernel
theorem dX10_reason_7 : decode cX10_reason 7 = .ok (.aload_n 0, 1) := by decide +kernel
theorem dX10_reason_8 : decode cX10_reason 8 = .ok (.getfield 7, 3) := by decide +kernel
theorem dX10_reason_11 : decode cX10_reason 11 = .ok (.bipush 14, 2) := by decide +kernel
theorem dX10_reason_13 : decode cX10_reason 13 = .ok (.iaload, 1) := by decide +kernel
theorem dX10_reason_14 : decode cX10_reason 14 = .ok (.aload_n 0, 1) := by decide +kernel
theorem dX10_reason_15 : decode cX10_reason 15 = .ok (.getfield 7, 3) := by decide +kernel
theorem dX10_reason_18 : decode cX10_reason 18 = .ok (.bipush 15, 2) := by decide +kernel
theorem dX10_reason_20 : decode cX10_reason 20 = .ok (.iaload, 1) := by decide +kernel
theorem dX10_reason_21 : decode cX10_reason 21 = .ok (.iadd, 1) := by decide +kernel
theorem dX10_reason_22 : decode cX10_reason 22 = .ok (.aload_n 0, 1) := by decide +kernel
theorem dX10_reason_23 : decode cX10_reason 23 = .ok (.getfield 7, 3) := by decide +kernel
theorem dX10_reason_26 : decode cX10_reason 26 = .ok (.bipush 16, 2) := by decide +kernel
theorem dX10_reason_28 : decode cX10_reason 28 = .ok (.iaload, 1) := by decide +kernel
theorem dX10_reason_29 : decode cX10_reason 29 = .ok (.iadd, 1) := by decide +kernel
theorem dX10_reason_30 : decode cX10_reason 30 = .ok (.iload_n 2, 1) := by decide +kernel
theorem dX10_reason_31 : decode cX10_reason 31 = .ok (.if_icmp .ge 5, 3) := by decide +kernel
theorem dX10_reason_34 : decode cX10_reason 34 = .ok (.iconst 1, 1) := by decide +kernel
theorem dX10_reason_35 : decode cX10_reason 35 = .ok (.ireturn, 1) := by decide +kernel
theorem dX10_reason_36 : decode cX10_reason 36 = .ok (.aload_n 0, 1) := by decide +kernel
theorem dX10_reason_37 : decode cX10_reason 37 = .ok (.iload_n 1, 1) := by decide +kernel
theorem dX10_reason_38 : decode cX10_reason 38 = .ok (.invokevirtual 52, 3) := by decide +kernel
theorem dX10_reason_41 : decode cX10_reason 41 = .ok (.ifCond .ne 5, 3) := by decide +kernel
theorem dX10_reason_44 : decode cX10_reason 44 = .ok (.iconst 2, 1) := by decide +kernel
theorem dX10_reason_45 : decode cX10_reason 45 = .ok (.ireturn, 1) := by decide +kernel
theorem dX10_reason_46 : decode cX10_reason 46 = .ok (.aload_n 0, 1) := by decide +kernel
theorem dX10_reason_47 : decode cX10_reason 47 = .ok (.getfield 7, 3) := by decide +kernel
theorem dX10_reason_50 : decode cX10_reason 50 = .ok (.bipush 14, 2) := by decide +kernel
theorem dX10_reason_52 : decode cX10_reason 52 = .ok (.iaload, 1) := by decide +kernel
theorem dX10_reason_53 : decode cX10_reason 53 = .ok (.aload_n 0, 1) := by decide +kernel
theorem dX10_reason_54 : decode cX10_reason 54 = .ok (.iload_n 1, 1) := by decide +kernel
theorem dX10_reason_55 : decode cX10_reason 55 = .ok (.iconst 1, 1) := by decide +kernel
theorem dX10_reason_56 : decode cX10_reason 56 = .ok (.invokevirtual 39, 3) := by decide +kernel
theorem dX10_reason_59 : decode cX10_reason 59 = .ok (.iload_n 2, 1) := by decide +kernel
theorem dX10_reason_60 : decode cX10_reason 60 = .ok (.invokestatic 43, 3) := by decide +kernel
theorem dX10_reason_63 : decode cX10_reason 63 = .ok (.if_icmp .ge 5, 3) := by decide +kernel
theorem dX10_reason_66 : decode cX10_reason 66 = .ok (.iconst 3, 1) := by decide +kernel
theorem dX10_reason_67 : decode cX10_reason 67 = .ok (.ireturn, 1) := by decide +kernel
theorem dX10_reason_68 : decode cX10_reason 68 = .ok (.aload_n 0, 1) := by decide +kernel
theorem dX10_reason_69 : decode cX10_reason 69 = .ok (.getfield 7, 3) := by decide +kernel
theorem dX10_reason_72 : decode cX10_reason 72 = .ok (.bipush 16, 2) := by decide +kernel
theorem dX10_reason_74 : decode cX10_reason 74 = .ok (.iaload, 1) := by decide +kernel
theorem dX10_reason_75 : decode cX10_reason 75 = .ok (.aload_n 0, 1) := by decide +kernel
theorem dX10_reason_76 : decode cX10_reason 76 = .ok (.iload_n 1, 1) := by decide +kernel
theorem dX10_reason_77 : decode cX10_reason 77 = .ok (.iconst 3, 1) := by decide +kernel
theorem dX10_reason_78 : decode cX10_reason 78 = .ok (.invokevirtual 39, 3) := by decide +kernel
theorem dX10_reason_81 : decode cX10_reason 81 = .ok (.iload_n 2, 1) := by decide +kernel
theorem dX10_reason_82 : decode cX10_reason 82 = .ok (.invokestatic 43, 3) := by decide +kernel
theorem dX10_reason_85 : decode cX10_reason 85 = .ok (.if_icmp .ge 5, 3) := by decide +kernel
theorem dX10_reason_88 : decode cX10_reason 88 = .ok (.iconst 4, 1) := by decide +kernel
theorem dX10_reason_89 : decode cX10_reason 89 = .ok (.ireturn, 1) := by decide +kernel
theorem dX10_reason_90 : decode cX10_reason 90 = .ok (.aload_n 0, 1) := by decide +kernel
theorem dX10_reason_91 : decode cX10_reason 91 = .ok (.iload_n 1, 1) := by decide +kernel
theorem dX10_reason_92 : decode cX10_reason 92 = .ok (.invokevirtual 56, 3) := by decide +kernel
theorem dX10_reason_95 : decode cX10_reason 95 = .ok (.ifCond .eq 7, 3) := by decide +kernel
theorem dX10_reason_98 : decode cX10_reason 98 = .ok (.iconst 0, 1) := by decide +kernel
theorem dX10_reason_99 : decode cX10_reason 99 = .ok (.goto 4, 3) := by decide +kernel
theorem dX10_reason_102 : decode cX10_reason 102 = .ok (.iconst 5, 1) := by decide +kernel
theorem dX10_reason_103 : decode cX10_reason 103 = .ok (.ireturn, 1) := by decide +kernel
theorem dX10_dropsContract_0 : decode cX10_dropsContract 0 = .ok (.aload_n 0, 1) := by decide +kernel
theorem dX10_dropsContract_1 : decode cX10_dropsContract 1 = .ok (.getfield 7, 3) := by decide +kernel
theorem dX10_dropsContract_4 : decode cX10_dropsContract 4 = .ok (.bipush 8, 2) := by decide +kernel
theorem dX10_dropsContract_6 : decode cX10_dropsContract 6 = .ok (.dup2, 1) := by decide +kernel
theorem dX10_dropsContract_7 : decode cX10_dropsContract 7 = .ok (.iaload, 1) := by decide +kernel
theorem dX10_dropsContract_8 : decode cX10_dropsContract 8 = .ok (.iconst 1, 1) := by decide +kernel
theorem dX10_dropsContract_9 : decode cX10_dropsContract 9 = .ok (.isub, 1) := by decide +kernel
theorem dX10_dropsContract_10 : decode cX10_dropsContract 10 = .ok (.iastore, 1) := by decide +kernel
theorem dX10_dropsContract_11 : decode cX10_dropsContract 11 = .ok (.bipush 6, 2) := by decide +kernel
theorem dX10_dropsContract_13 : decode cX10_dropsContract 13 = .ok (.iload_n 1, 1) := by decide +kernel
theorem dX10_dropsContract_14 : decode cX10_dropsContract 14 = .ok (.imul, 1) := by decide +kernel
theorem dX10_dropsContract_15 : decode cX10_dropsContract 15 = .ok (.istore_n 2, 1) := by decide +kernel
theorem dX10_dropsContract_16 : decode cX10_dropsContract 16 = .ok (.iload_n 2, 1) := by decide +kernel
theorem dX10_dropsContract_17 : decode cX10_dropsContract 17 = .ok (.bipush 6, 2) := by decide +kernel
theorem dX10_dropsContract_19 : decode cX10_dropsContract 19 = .ok (.aload_n 0, 1) := by decide +kernel
theorem dX10_dropsContract_20 : decode cX10_dropsContract 20 = .ok (.getfield 7, 3) := by decide +kernel
theorem dX10_dropsContract_23 : decode cX10_dropsContract 23 = .ok (.bipush 8, 2) := by decide +kernel
theorem dX10_dropsContract_25 : decode cX10_dropsContract 25 = .ok (.iaload, 1) := by decide +kernel
theorem dX10_dropsContract_26 : decode cX10_dropsContract 26 = .ok (.imul, 1) := by decide +kernel
theorem dX10_dropsContract_27 : decode cX10_dropsContract 27 = .ok (.if_icmp .ge 32, 3) := by decide +kernel
theorem dX10_dropsContract_30 : decode cX10_dropsContract 30 = .ok (.aload_n 0, 1) := by decide +kernel
theorem dX10_dropsContract_31 : decode cX10_dropsContract 31 = .ok (.getfield 7, 3) := by decide +kernel
theorem dX10_dropsContract_34 : decode cX10_dropsContract 34 = .ok (.sipush 138, 3) := by decide +kernel
theorem dX10_dropsContract_37 : decode cX10_dropsContract 37 = .ok (.iload_n 2, 1) := by decide +kernel
theorem dX10_dropsContract_38 : decode cX10_dropsContract 38 = .ok (.iadd, 1) := by decide +kernel
theorem dX10_dropsContract_39 : decode cX10_dropsContract 39 = .ok (.aload_n 0, 1) := by decide +kernel
theorem dX10_dropsContract_40 : decode cX10_dropsContract 40 = .ok (.getfield 7, 3) := by decide +kernel
theorem dX10_dropsContract_43 : decode cX10_dropsContract 43 = .ok (.sipush 138, 3) := by decide +kernel
theorem dX10_dropsContract_46 : decode cX10_dropsContract 46 = .ok (.iload_n 2, 1) := by decide +kernel
theorem dX10_dropsContract_47 : decode cX10_dropsContract 47 = .ok (.iadd, 1) := by decide +kernel
theorem dX10_dropsContract_48 : decode cX10_dropsContract 48 = .ok (.bipush 6, 2) := by decide +kernel
theorem dX10_dropsContract_50 : decode cX10_dropsContract 50 = .ok (.iadd, 1) := by decide +kernel
theorem dX10_dropsContract_51 : decode cX10_dropsContract 51 = .ok (.iaload, 1) := by decide +kernel
theorem dX10_dropsContract_52 : decode cX10_dropsContract 52 = .ok (.iastore, 1) := by decide +kernel
theorem dX10_dropsContract_53 : decode cX10_dropsContract 53 = .ok (.iinc 2 1, 3) := by decide +kernel
theorem dX10_dropsContract_56 : decode cX10_dropsContract 56 = .ok (.goto (-40), 3) := by decide +kernel
theorem dX10_dropsContract_59 : decode cX10_dropsContract 59 = .ok (.iconst 0, 1) := by decide +kernel
theorem dX10_dropsContract_60 : decode cX10_dropsContract 60 = .ok (.istore_n 2, 1) := by decide +kernel
theorem dX10_dropsContract_61 : decode cX10_dropsContract 61 = .ok (.iload_n 2, 1) := by decide +kernel
theorem dX10_dropsContract_62 : decode cX10_dropsContract 62 = .ok (.bipush 6, 2) := by decide +kernel
theorem dX10_dropsContract_64 : decode cX10_dropsContract 64 = .ok (.if_icmp .ge 31, 3) := by decide +kernel
theorem dX10_dropsContract_67 : decode cX10_dropsContract 67 = .ok (.aload_n 0, 1) := by decide +kernel
theorem dX10_dropsContract_68 : decode cX10_dropsContract 68 = .ok (.getfield 7, 3) := by decide +kernel
theorem dX10_dropsContract_71 : decode cX10_dropsContract 71 = .ok (.sipush 138, 3) := by decide +kernel
theorem dX10_dropsContract_74 : decode cX10_dropsContract 74 = .ok (.bipush 6, 2) := by decide +kernel
theorem dX10_dropsContract_76 : decode cX10_dropsContract 76 = .ok (.aload_n 0, 1) := by decide +kernel
theorem dX10_dropsContract_77 : decode cX10_dropsContract 77 = .ok (.getfield 7, 3) := by decide +kernel
theorem dX10_dropsContract_80 : decode cX10_dropsContract 80 = .ok (.bipush 8, 2) := by decide +kernel
theorem dX10_dropsContract_82 : decode cX10_dropsContract 82 = .ok (.iaload, 1) := by decide +kernel
theorem dX10_dropsContract_83 : decode cX10_dropsContract 83 = .ok (.imul, 1) := by decide +kernel
theorem dX10_dropsContract_84 : decode cX10_dropsContract 84 = .ok (.iadd, 1) := by decide +kernel
theorem dX10_dropsContract_85 : decode cX10_dropsContract 85 = .ok (.iload_n 2, 1) := by decide +kernel
theorem dX10_dropsContract_86 : decode cX10_dropsContract 86 = .ok (.iadd, 1) := by decide +kernel
theorem dX10_dropsContract_87 : decode cX10_dropsContract 87 = .ok (.iconst 0, 1) := by decide +kernel
theorem dX10_dropsContract_88 : decode cX10_dropsContract 88 = .ok (.iastore, 1) := by decide +kernel
theorem dX10_dropsContract_89 : decode cX10_dropsContract 89 = .ok (.iinc 2 1, 3) := by decide +kernel
theorem dX10_dropsContract_92 : decode cX10_dropsContract 92 = .ok (.goto (-31), 3) := by decide +kernel
theorem dX10_dropsContract_95 : decode cX10_dropsContract 95 = .ok (.return_, 1) := by decide +kernel
set_option maxRecDepth 20000 in
theorem ggX10_delivers_X10_asks : GoodIn wsX10_delivers wsX10_asks := goodIn_r _ [8, 1, 13, 14, 15, 16, 17, 18, 19, 20, 21, 22, 23, 24, 25, 26, 27] (by decide +kernel) (by decide +kernel)
set_option maxRecDepth 20000 in
theorem gX10_delivers_X10_asks : GoodIn wsX10_delivers (wsV RX10 39 RX10 yX10_asks wsX10_asks) := goodIn_app (goodIn_of _ (by decide +kernel)) ggX10_delivers_X10_asks
set_option maxRecDepth 20000 in
theorem ggX10_delivers_X10_dropsContract : GoodIn wsX10_delivers wsX10_dropsContract := goodIn_r _ [12, 1, 13, 14, 15, 16, 17, 18, 19, 20, 21, 22, 23, 24, 25, 26, 27] (by decide +kernel) (by decide +kernel)
set_option maxRecDepth 20000 in
theorem gX10_delivers_X10_dropsContract : GoodIn wsX10_delivers (wsV RX10 59 RX10 yX10_dropsContract wsX10_dropsContract) := goodIn_app (goodIn_of _ (by decide +kernel)) ggX10_delivers_X10_dropsContract
theorem dX10_delivers_0 : decode cX10_delivers 0 = .ok (.aload_n 0, 1) := by decide +kernel
theorem dX10_delivers_1 : decode cX10_delivers 1 = .ok (.iload_n 1, 1) := by decide +kernel
theorem dX10_delivers_2 : decode cX10_delivers 2 = .ok (.iconst 0, 1) := by decide +kernel
theorem dX10_delivers_3 : decode cX10_delivers 3 = .ok (.invokevirtual 39, 3) := by decide +kernel
theorem dX10_delivers_6 : decode cX10_delivers 6 = .ok (.istore_n 2, 1) := by decide +kernel
theorem dX10_delivers_7 : decode cX10_delivers 7 = .ok (.aload_n 0, 1) := by decide +kernel
theorem dX10_delivers_8 : decode cX10_delivers 8 = .ok (.getfield 7, 3) := by decide +kernel
theorem dX10_delivers_11 : decode cX10_delivers 11 = .ok (.bipush 14, 2) := by decide +kernel
theorem dX10_delivers_13 : decode cX10_delivers 13 = .ok (.dup2, 1) := by decide +kernel
theorem dX10_delivers_14 : decode cX10_delivers 14 = .ok (.iaload, 1) := by decide +kernel
theorem dX10_delivers_15 : decode cX10_delivers 15 = .ok (.aload_n 0, 1) := by decide +kernel
theorem dX10_delivers_16 : decode cX10_delivers 16 = .ok (.getfield 46, 3) := by decide +kernel
theorem dX10_delivers_19 : decode cX10_delivers 19 = .ok (.isub, 1) := by decide +kernel
theorem dX10_delivers_20 : decode cX10_delivers 20 = .ok (.iastore, 1) := by decide +kernel
theorem dX10_delivers_21 : decode cX10_delivers 21 = .ok (.aload_n 0, 1) := by decide +kernel
theorem dX10_delivers_22 : decode cX10_delivers 22 = .ok (.getfield 7, 3) := by decide +kernel
theorem dX10_delivers_25 : decode cX10_delivers 25 = .ok (.bipush 15, 2) := by decide +kernel
theorem dX10_delivers_27 : decode cX10_delivers 27 = .ok (.dup2, 1) := by decide +kernel
theorem dX10_delivers_28 : decode cX10_delivers 28 = .ok (.iaload, 1) := by decide +kernel
theorem dX10_delivers_29 : decode cX10_delivers 29 = .ok (.iload_n 2, 1) := by decide +kernel
theorem dX10_delivers_30 : decode cX10_delivers 30 = .ok (.aload_n 0, 1) := by decide +kernel
theorem dX10_delivers_31 : decode cX10_delivers 31 = .ok (.getfield 46, 3) := by decide +kernel
theorem dX10_delivers_34 : decode cX10_delivers 34 = .ok (.isub, 1) := by decide +kernel
theorem dX10_delivers_35 : decode cX10_delivers 35 = .ok (.aload_n 0, 1) := by decide +kernel
theorem dX10_delivers_36 : decode cX10_delivers 36 = .ok (.getfield 49, 3) := by decide +kernel
theorem dX10_delivers_39 : decode cX10_delivers 39 = .ok (.isub, 1) := by decide +kernel
theorem dX10_delivers_40 : decode cX10_delivers 40 = .ok (.isub, 1) := by decide +kernel
theorem dX10_delivers_41 : decode cX10_delivers 41 = .ok (.iastore, 1) := by decide +kernel
theorem dX10_delivers_42 : decode cX10_delivers 42 = .ok (.aload_n 0, 1) := by decide +kernel
theorem dX10_delivers_43 : decode cX10_delivers 43 = .ok (.getfield 7, 3) := by decide +kernel
theorem dX10_delivers_46 : decode cX10_delivers 46 = .ok (.bipush 16, 2) := by decide +kernel
theorem dX10_delivers_48 : decode cX10_delivers 48 = .ok (.dup2, 1) := by decide +kernel
theorem dX10_delivers_49 : decode cX10_delivers 49 = .ok (.iaload, 1) := by decide +kernel
theorem dX10_delivers_50 : decode cX10_delivers 50 = .ok (.aload_n 0, 1) := by decide +kernel
theorem dX10_delivers_51 : decode cX10_delivers 51 = .ok (.getfield 49, 3) := by decide +kernel
theorem dX10_delivers_54 : decode cX10_delivers 54 = .ok (.isub, 1) := by decide +kernel
theorem dX10_delivers_55 : decode cX10_delivers 55 = .ok (.iastore, 1) := by decide +kernel
theorem dX10_delivers_56 : decode cX10_delivers 56 = .ok (.aload_n 0, 1) := by decide +kernel
theorem dX10_delivers_57 : decode cX10_delivers 57 = .ok (.getfield 7, 3) := by decide +kernel
theorem dX10_delivers_60 : decode cX10_delivers 60 = .ok (.bipush 12, 2) := by decide +kernel
theorem dX10_delivers_62 : decode cX10_delivers 62 = .ok (.dup2, 1) := by decide +kernel
theorem dX10_delivers_63 : decode cX10_delivers 63 = .ok (.iaload, 1) := by decide +kernel
theorem dX10_delivers_64 : decode cX10_delivers 64 = .ok (.iload_n 2, 1) := by decide +kernel
theorem dX10_delivers_65 : decode cX10_delivers 65 = .ok (.aload_n 0, 1) := by decide +kernel
theorem dX10_delivers_66 : decode cX10_delivers 66 = .ok (.iload_n 1, 1) := by decide +kernel
theorem dX10_delivers_67 : decode cX10_delivers 67 = .ok (.iconst 5, 1) := by decide +kernel
theorem dX10_delivers_68 : decode cX10_delivers 68 = .ok (.invokevirtual 39, 3) := by decide +kernel
theorem dX10_delivers_71 : decode cX10_delivers 71 = .ok (.imul, 1) := by decide +kernel
theorem dX10_delivers_72 : decode cX10_delivers 72 = .ok (.iadd, 1) := by decide +kernel
theorem dX10_delivers_73 : decode cX10_delivers 73 = .ok (.iastore, 1) := by decide +kernel
theorem dX10_delivers_74 : decode cX10_delivers 74 = .ok (.aload_n 0, 1) := by decide +kernel
theorem dX10_delivers_75 : decode cX10_delivers 75 = .ok (.getfield 7, 3) := by decide +kernel
theorem dX10_delivers_78 : decode cX10_delivers 78 = .ok (.bipush 11, 2) := by decide +kernel
theorem dX10_delivers_80 : decode cX10_delivers 80 = .ok (.dup2, 1) := by decide +kernel
theorem dX10_delivers_81 : decode cX10_delivers 81 = .ok (.iaload, 1) := by decide +kernel
theorem dX10_delivers_82 : decode cX10_delivers 82 = .ok (.iconst 1, 1) := by decide +kernel
theorem dX10_delivers_83 : decode cX10_delivers 83 = .ok (.iadd, 1) := by decide +kernel
theorem dX10_delivers_84 : decode cX10_delivers 84 = .ok (.iastore, 1) := by decide +kernel
theorem dX10_delivers_85 : decode cX10_delivers 85 = .ok (.aload_n 0, 1) := by decide +kernel
theorem dX10_delivers_86 : decode cX10_delivers 86 = .ok (.iload_n 1, 1) := by decide +kernel
theorem dX10_delivers_87 : decode cX10_delivers 87 = .ok (.invokevirtual 59, 3) := by decide +kernel
theorem dX10_delivers_90 : decode cX10_delivers 90 = .ok (.return_, 1) := by decide +kernel
theorem dX10_capacity_0 : decode cX10_capacity 0 = .ok (.aload_n 0, 1) := by decide +kernel
theorem dX10_capacity_1 : decode cX10_capacity 1 = .ok (.getfield 7, 3) := by decide +kernel
theorem dX10_capacity_4 : decode cX10_capacity 4 = .ok (.iconst 4, 1) := by decide +kernel
theorem dX10_capacity_5 : decode cX10_capacity 5 = .ok (.iaload, 1) := by decide +kernel
theorem dX10_capacity_6 : decode cX10_capacity 6 = .ok (.aload_n 0, 1) := by decide +kernel
theorem dX10_capacity_7 : decode cX10_capacity 7 = .ok (.getfield 7, 3) := by decide +kernel
theorem dX10_capacity_10 : decode cX10_capacity 10 = .ok (.bipush 10, 2) := by decide +kernel
theorem dX10_capacity_12 : decode cX10_capacity 12 = .ok (.iaload, 1) := by decide +kernel
theorem dX10_capacity_13 : decode cX10_capacity 13 = .ok (.sipush 1000, 3) := by decide +kernel
theorem dX10_capacity_16 : decode cX10_capacity 16 = .ok (.idiv, 1) := by decide +kernel
theorem dX10_capacity_17 : decode cX10_capacity 17 = .ok (.isub, 1) := by decide +kernel
theorem dX10_capacity_18 : decode cX10_capacity 18 = .ok (.istore_n 1, 1) := by decide +kernel
theorem dX10_capacity_19 : decode cX10_capacity 19 = .ok (.iload_n 1, 1) := by decide +kernel
theorem dX10_capacity_20 : decode cX10_capacity 20 = .ok (.iconst 1, 1) := by decide +kernel
theorem dX10_capacity_21 : decode cX10_capacity 21 = .ok (.if_icmp .ge 7, 3) := by decide +kernel
theorem dX10_capacity_24 : decode cX10_capacity 24 = .ok (.iconst 1, 1) := by decide +kernel
theorem dX10_capacity_25 : decode cX10_capacity 25 = .ok (.goto 4, 3) := by decide +kernel
theorem dX10_capacity_28 : decode cX10_capacity 28 = .ok (.iload_n 1, 1) := by decide +kernel
theorem dX10_capacity_29 : decode cX10_capacity 29 = .ok (.ireturn, 1) := by decide +kernel
theorem dX10_inFront_0 : decode cX10_inFront 0 = .ok (.iconst 0, 1) := by decide +kernel
theorem dX10_inFront_1 : decode cX10_inFront 1 = .ok (.istore_n 1, 1) := by decide +kernel
theorem dX10_inFront_2 : decode cX10_inFront 2 = .ok (.iconst 1, 1) := by decide +kernel
theorem dX10_inFront_3 : decode cX10_inFront 3 = .ok (.istore_n 2, 1) := by decide +kernel
theorem dX10_inFront_4 : decode cX10_inFront 4 = .ok (.iload_n 2, 1) := by decide +kernel
theorem dX10_inFront_5 : decode cX10_inFront 5 = .ok (.bipush 10, 2) := by decide +kernel
theorem dX10_inFront_7 : decode cX10_inFront 7 = .ok (.if_icmp .ge 21, 3) := by decide +kernel
theorem dX10_inFront_10 : decode cX10_inFront 10 = .ok (.iload_n 1, 1) := by decide +kernel
theorem dX10_inFront_11 : decode cX10_inFront 11 = .ok (.aload_n 0, 1) := by decide +kernel
theorem dX10_inFront_12 : decode cX10_inFront 12 = .ok (.getfield 7, 3) := by decide +kernel
theorem dX10_inFront_15 : decode cX10_inFront 15 = .ok (.bipush 16, 2) := by decide +kernel
theorem dX10_inFront_17 : decode cX10_inFront 17 = .ok (.iload_n 2, 1) := by decide +kernel
theorem dX10_inFront_18 : decode cX10_inFront 18 = .ok (.iadd, 1) := by decide +kernel
theorem dX10_inFront_19 : decode cX10_inFront 19 = .ok (.iaload, 1) := by decide +kernel
theorem dX10_inFront_20 : decode cX10_inFront 20 = .ok (.iadd, 1) := by decide +kernel
theorem dX10_inFront_21 : decode cX10_inFront 21 = .ok (.istore_n 1, 1) := by decide +kernel
theorem dX10_inFront_22 : decode cX10_inFront 22 = .ok (.iinc 2 1, 3) := by decide +kernel
theorem dX10_inFront_25 : decode cX10_inFront 25 = .ok (.goto (-21), 3) := by decide +kernel
theorem dX10_inFront_28 : decode cX10_inFront 28 = .ok (.iload_n 1, 1) := by decide +kernel
theorem dX10_inFront_29 : decode cX10_inFront 29 = .ok (.ireturn, 1) := by decide +kernel
set_option maxRecDepth 20000 in
theorem ggX10_fullest_X10_faceOf : GoodIn wsX10_fullest wsX10_faceOf := goodIn_r _ [6, 1, 7, 8, 9, 10, 11, 12, 13, 14, 15, 16, 17, 18, 19, 20, 21] (by decide +kernel) (by decide +kernel)
set_option maxRecDepth 20000 in
theorem gX10_fullest_X10_faceOf : GoodIn wsX10_fullest (wsV RX10 63 RX10 yX10_faceOf wsX10_faceOf) := goodIn_app (goodIn_of _ (by decide +kernel)) ggX10_fullest_X10_faceOf
theorem dX10_fullest_0 : decode cX10_fullest 0 = .ok (.bipush (-6), 2) := by decide +kernel
theorem dX10_fullest_2 : decode cX10_fullest 2 = .ok (.istore_n 1, 1) := by decide +kernel
theorem dX10_fullest_3 : decode cX10_fullest 3 = .ok (.iconst 0, 1) := by decide +kernel
theorem dX10_fullest_4 : decode cX10_fullest 4 = .ok (.istore_n 2, 1) := by decide +kernel
theorem dX10_fullest_5 : decode cX10_fullest 5 = .ok (.iload_n 2, 1) := by decide +kernel
theorem dX10_fullest_6 : decode cX10_fullest 6 = .ok (.aload_n 0, 1) := by decide +kernel
theorem dX10_fullest_7 : decode cX10_fullest 7 = .ok (.getfield 7, 3) := by decide +kernel
theorem dX10_fullest_10 : decode cX10_fullest 10 = .ok (.bipush 7, 2) := by decide +kernel
theorem dX10_fullest_12 : decode cX10_fullest 12 = .ok (.iaload, 1) := by decide +kernel
theorem dX10_fullest_13 : decode cX10_fullest 13 = .ok (.if_icmp .ge 45, 3) := by decide +kernel
theorem dX10_fullest_16 : decode cX10_fullest 16 = .ok (.aload_n 0, 1) := by decide +kernel
theorem dX10_fullest_17 : decode cX10_fullest 17 = .ok (.iload_n 2, 1) := by decide +kernel
theorem dX10_fullest_18 : decode cX10_fullest 18 = .ok (.iconst 0, 1) := by decide +kernel
theorem dX10_fullest_19 : decode cX10_fullest 19 = .ok (.invokevirtual 63, 3) := by decide +kernel
theorem dX10_fullest_22 : decode cX10_fullest 22 = .ok (.ifCond .le 28, 3) := by decide +kernel
theorem dX10_fullest_25 : decode cX10_fullest 25 = .ok (.iload_n 1, 1) := by decide +kernel
theorem dX10_fullest_26 : decode cX10_fullest 26 = .ok (.bipush (-6), 2) := by decide +kernel
theorem dX10_fullest_28 : decode cX10_fullest 28 = .ok (.if_icmp .eq 18, 3) := by decide +kernel
theorem dX10_fullest_31 : decode cX10_fullest 31 = .ok (.aload_n 0, 1) := by decide +kernel
theorem dX10_fullest_32 : decode cX10_fullest 32 = .ok (.iload_n 2, 1) := by decide +kernel
theorem dX10_fullest_33 : decode cX10_fullest 33 = .ok (.iconst 0, 1) := by decide +kernel
theorem dX10_fullest_34 : decode cX10_fullest 34 = .ok (.invokevirtual 63, 3) := by decide +kernel
theorem dX10_fullest_37 : decode cX10_fullest 37 = .ok (.aload_n 0, 1) := by decide +kernel
theorem dX10_fullest_38 : decode cX10_fullest 38 = .ok (.iload_n 1, 1) := by decide +kernel
theorem dX10_fullest_39 : decode cX10_fullest 39 = .ok (.iconst 0, 1) := by decide +kernel
theorem dX10_fullest_40 : decode cX10_fullest 40 = .ok (.invokevirtual 63, 3) := by decide +kernel
theorem dX10_fullest_43 : decode cX10_fullest 43 = .ok (.if_icmp .le 7, 3) := by decide +kernel
theorem dX10_fullest_46 : decode cX10_fullest 46 = .ok (.iload_n 2, 1) := by decide +kernel
theorem dX10_fullest_47 : decode cX10_fullest 47 = .ok (.goto 4, 3) := by decide +kernel
theorem dX10_fullest_50 : decode cX10_fullest 50 = .ok (.iload_n 1, 1) := by decide +kernel
theorem dX10_fullest_51 : decode cX10_fullest 51 = .ok (.istore_n 1, 1) := by decide +kernel
theorem dX10_fullest_52 : decode cX10_fullest 52 = .ok (.iinc 2 1, 3) := by decide +kernel
theorem dX10_fullest_55 : decode cX10_fullest 55 = .ok (.goto (-50), 3) := by decide +kernel
theorem dX10_fullest_58 : decode cX10_fullest 58 = .ok (.iload_n 1, 1) := by decide +kernel
theorem dX10_fullest_59 : decode cX10_fullest 59 = .ok (.ireturn, 1) := by decide +kernel
set_option maxRecDepth 20000 in
theorem ggX10_comesBack_X10_faceOf : GoodIn wsX10_comesBack wsX10_faceOf := goodIn_r _ [6, 1, 7, 8, 9, 10, 11, 12, 13, 14, 15, 16, 17, 18, 19, 20, 21] (by decide +kernel) (by decide +kernel)
set_option maxRecDepth 20000 in
theorem gX10_comesBack_X10_faceOf : GoodIn wsX10_comesBack (wsV RX10 63 RX10 yX10_faceOf wsX10_faceOf) := goodIn_app (goodIn_of _ (by decide +kernel)) ggX10_comesBack_X10_faceOf
theorem dX10_comesBack_0 : decode cX10_comesBack 0 = .ok (.bipush 58, 2) := by decide +kernel
theorem dX10_comesBack_2 : decode cX10_comesBack 2 = .ok (.iconst 4, 1) := by decide +kernel
theorem dX10_comesBack_3 : decode cX10_comesBack 3 = .ok (.iload_n 1, 1) := by decide +kernel
theorem dX10_comesBack_4 : decode cX10_comesBack 4 = .ok (.imul, 1) := by decide +kernel
theorem dX10_comesBack_5 : decode cX10_comesBack 5 = .ok (.iadd, 1) := by decide +kernel
theorem dX10_comesBack_6 : decode cX10_comesBack 6 = .ok (.istore_n 2, 1) := by decide +kernel
theorem dX10_comesBack_7 : decode cX10_comesBack 7 = .ok (.aload_n 0, 1) := by decide +kernel
theorem dX10_comesBack_8 : decode cX10_comesBack 8 = .ok (.getfield 7, 3) := by decide +kernel
theorem dX10_comesBack_11 : decode cX10_comesBack 11 = .ok (.iload_n 2, 1) := by decide +kernel
theorem dX10_comesBack_12 : decode cX10_comesBack 12 = .ok (.iconst 0, 1) := by decide +kernel
theorem dX10_comesBack_13 : decode cX10_comesBack 13 = .ok (.iadd, 1) := by decide +kernel
theorem dX10_comesBack_14 : decode cX10_comesBack 14 = .ok (.iaload, 1) := by decide +kernel
theorem dX10_comesBack_15 : decode cX10_comesBack 15 = .ok (.ifCond .le 82, 3) := by decide +kernel
theorem dX10_comesBack_18 : decode cX10_comesBack 18 = .ok (.aload_n 0, 1) := by decide +kernel
theorem dX10_comesBack_19 : decode cX10_comesBack 19 = .ok (.getfield 7, 3) := by decide +kernel
theorem dX10_comesBack_22 : decode cX10_comesBack 22 = .ok (.iload_n 2, 1) := by decide +kernel
theorem dX10_comesBack_23 : decode cX10_comesBack 23 = .ok (.iconst 2, 1) := by decide +kernel
theorem dX10_comesBack_24 : decode cX10_comesBack 24 = .ok (.iadd, 1) := by decide +kernel
theorem dX10_comesBack_25 : decode cX10_comesBack 25 = .ok (.iaload, 1) := by decide +kernel
theorem dX10_comesBack_26 : decode cX10_comesBack 26 = .ok (.aload_n 0, 1) := by decide +kernel
theorem dX10_comesBack_27 : decode cX10_comesBack 27 = .ok (.getfield 7, 3) := by decide +kernel
theorem dX10_comesBack_30 : decode cX10_comesBack 30 = .ok (.bipush 6, 2) := by decide +kernel
theorem dX10_comesBack_32 : decode cX10_comesBack 32 = .ok (.iaload, 1) := by decide +kernel
theorem dX10_comesBack_33 : decode cX10_comesBack 33 = .ok (.if_icmp .ne 64, 3) := by decide +kernel
theorem dX10_comesBack_36 : decode cX10_comesBack 36 = .ok (.aload_n 0, 1) := by decide +kernel
theorem dX10_comesBack_37 : decode cX10_comesBack 37 = .ok (.getfield 7, 3) := by decide +kernel
theorem dX10_comesBack_40 : decode cX10_comesBack 40 = .ok (.bipush 16, 2) := by decide +kernel
theorem dX10_comesBack_42 : decode cX10_comesBack 42 = .ok (.aload_n 0, 1) := by decide +kernel
theorem dX10_comesBack_43 : decode cX10_comesBack 43 = .ok (.aload_n 0, 1) := by decide +kernel
theorem dX10_comesBack_44 : decode cX10_comesBack 44 = .ok (.getfield 7, 3) := by decide +kernel
theorem dX10_comesBack_47 : decode cX10_comesBack 47 = .ok (.iload_n 2, 1) := by decide +kernel
theorem dX10_comesBack_48 : decode cX10_comesBack 48 = .ok (.iconst 0, 1) := by decide +kernel
theorem dX10_comesBack_49 : decode cX10_comesBack 49 = .ok (.iadd, 1) := by decide +kernel
theorem dX10_comesBack_50 : decode cX10_comesBack 50 = .ok (.iaload, 1) := by decide +kernel
theorem dX10_comesBack_51 : decode cX10_comesBack 51 = .ok (.iconst 1, 1) := by decide +kernel
theorem dX10_comesBack_52 : decode cX10_comesBack 52 = .ok (.isub, 1) := by decide +kernel
theorem dX10_comesBack_53 : decode cX10_comesBack 53 = .ok (.iconst 1, 1) := by decide +kernel
theorem dX10_comesBack_54 : decode cX10_comesBack 54 = .ok (.invokevirtual 63, 3) := by decide +kernel
theorem dX10_comesBack_57 : decode cX10_comesBack 57 = .ok (.iadd, 1) := by decide +kernel
theorem dX10_comesBack_58 : decode cX10_comesBack 58 = .ok (.dup2, 1) := by decide +kernel
theorem dX10_comesBack_59 : decode cX10_comesBack 59 = .ok (.iaload, 1) := by decide +kernel
theorem dX10_comesBack_60 : decode cX10_comesBack 60 = .ok (.aload_n 0, 1) := by decide +kernel
theorem dX10_comesBack_61 : decode cX10_comesBack 61 = .ok (.getfield 7, 3) := by decide +kernel
theorem dX10_comesBack_64 : decode cX10_comesBack 64 = .ok (.iload_n 2, 1) := by decide +kernel
theorem dX10_comesBack_65 : decode cX10_comesBack 65 = .ok (.iconst 1, 1) := by decide +kernel
theorem dX10_comesBack_66 : decode cX10_comesBack 66 = .ok (.iadd, 1) := by decide +kernel
theorem dX10_comesBack_67 : decode cX10_comesBack 67 = .ok (.iaload, 1) := by decide +kernel
theorem dX10_comesBack_68 : decode cX10_comesBack 68 = .ok (.iadd, 1) := by decide +kernel
theorem dX10_comesBack_69 : decode cX10_comesBack 69 = .ok (.iastore, 1) := by decide +kernel
theorem dX10_comesBack_70 : decode cX10_comesBack 70 = .ok (.aload_n 0, 1) := by decide +kernel
theorem dX10_comesBack_71 : decode cX10_comesBack 71 = .ok (.getfield 7, 3) := by decide +kernel
theorem dX10_comesBack_74 : decode cX10_comesBack 74 = .ok (.iload_n 2, 1) := by decide +kernel
theorem dX10_comesBack_75 : decode cX10_comesBack 75 = .ok (.iconst 0, 1) := by decide +kernel
theorem dX10_comesBack_76 : decode cX10_comesBack 76 = .ok (.iadd, 1) := by decide +kernel
theorem dX10_comesBack_77 : decode cX10_comesBack 77 = .ok (.iconst 0, 1) := by decide +kernel
theorem dX10_comesBack_78 : decode cX10_comesBack 78 = .ok (.iastore, 1) := by decide +kernel
theorem dX10_comesBack_79 : decode cX10_comesBack 79 = .ok (.aload_n 0, 1) := by decide +kernel
theorem dX10_comesBack_80 : decode cX10_comesBack 80 = .ok (.getfield 7, 3) := by decide +kernel
theorem dX10_comesBack_83 : decode cX10_comesBack 83 = .ok (.iload_n 2, 1) := by decide +kernel
theorem dX10_comesBack_84 : decode cX10_comesBack 84 = .ok (.iconst 1, 1) := by decide +kernel
theorem dX10_comesBack_85 : decode cX10_comesBack 85 = .ok (.iadd, 1) := by decide +kernel
theorem dX10_comesBack_86 : decode cX10_comesBack 86 = .ok (.iconst 0, 1) := by decide +kernel
theorem dX10_comesBack_87 : decode cX10_comesBack 87 = .ok (.iastore, 1) := by decide +kernel
theorem dX10_comesBack_88 : decode cX10_comesBack 88 = .ok (.aload_n 0, 1) := by decide +kernel
theorem dX10_comesBack_89 : decode cX10_comesBack 89 = .ok (.getfield 7, 3) := by decide +kernel
theorem dX10_comesBack_92 : decode cX10_comesBack 92 = .ok (.iload_n 2, 1) := by decide +kernel
theorem dX10_comesBack_93 : decode cX10_comesBack 93 = .ok (.iconst 2, 1) := by decide +kernel
theorem dX10_comesBack_94 : decode cX10_comesBack 94 = .ok (.iadd, 1) := by decide +kernel
theorem dX10_comesBack_95 : decode cX10_comesBack 95 = .ok (.iconst 0, 1) := by decide +kernel
theorem dX10_comesBack_96 : decode cX10_comesBack 96 = .ok (.iastore, 1) := by decide +kernel
theorem dX10_comesBack_97 : decode cX10_comesBack 97 = .ok (.return_, 1) := by decide +kernel
set_option maxRecDepth 20000 in
theorem ggX10_goes_X10_fullest : GoodIn wsX10_goes wsX10_fullest := goodIn_r _ [6, 1, 7, 8, 9, 5, 10, 11, 12, 13, 14, 15, 16, 17, 18, 19, 20, 21, 22, 23, 24, 25] (by decide +kernel) (by decide +kernel)
set_option maxRecDepth 20000 in
theorem gX10_goes_X10_fullest : GoodIn wsX10_goes (wsV RX10 66 RX10 yX10_fullest wsX10_fullest) := goodIn_app (goodIn_of _ (by decide +kernel)) ggX10_goes_X10_fullest
set_option maxRecDepth 20000 in
theorem ggX10_goes_X10_faceOf : GoodIn wsX10_goes wsX10_faceOf := goodIn_r _ [10, 1, 11, 12, 13, 14, 15, 16, 17, 18, 19, 20, 21, 22, 23, 24, 25] (by decide +kernel) (by decide +kernel)
set_option maxRecDepth 20000 in
theorem gX10_goes_X10_faceOf : GoodIn wsX10_goes (wsV RX10 63 RX10 yX10_faceOf wsX10_faceOf) := goodIn_app (goodIn_of _ (by decide +kernel)) ggX10_goes_X10_faceOf
theorem dX10_goes_0 : decode cX10_goes 0 = .ok (.aload_n 0, 1) := by decide +kernel
theorem dX10_goes_1 : decode cX10_goes 1 = .ok (.invokevirtual 66, 3) := by decide +kernel
theorem dX10_goes_4 : decode cX10_goes 4 = .ok (.istore_n 2, 1) := by decide +kernel
theorem dX10_goes_5 : decode cX10_goes 5 = .ok (.bipush 58, 2) := by decide +kernel
theorem dX10_goes_7 : decode cX10_goes 7 = .ok (.iconst 4, 1) := by decide +kernel
theorem dX10_goes_8 : decode cX10_goes 8 = .ok (.iload_n 1, 1) := by decide +kernel
theorem dX10_goes_9 : decode cX10_goes 9 = .ok (.imul, 1) := by decide +kernel
theorem dX10_goes_10 : decode cX10_goes 10 = .ok (.iadd, 1) := by decide +kernel
theorem dX10_goes_11 : decode cX10_goes 11 = .ok (.istore_n 3, 1) := by decide +kernel
theorem dX10_goes_12 : decode cX10_goes 12 = .ok (.aload_n 0, 1) := by decide +kernel
theorem dX10_goes_13 : decode cX10_goes 13 = .ok (.getfield 7, 3) := by decide +kernel
theorem dX10_goes_16 : decode cX10_goes 16 = .ok (.iload_n 3, 1) := by decide +kernel
theorem dX10_goes_17 : decode cX10_goes 17 = .ok (.iconst 0, 1) := by decide +kernel
theorem dX10_goes_18 : decode cX10_goes 18 = .ok (.iadd, 1) := by decide +kernel
theorem dX10_goes_19 : decode cX10_goes 19 = .ok (.iaload, 1) := by decide +kernel
theorem dX10_goes_20 : decode cX10_goes 20 = .ok (.ifCond .ne 155, 3) := by decide +kernel
theorem dX10_goes_23 : decode cX10_goes 23 = .ok (.iload_n 2, 1) := by decide +kernel
theorem dX10_goes_24 : decode cX10_goes 24 = .ok (.bipush (-6), 2) := by decide +kernel
theorem dX10_goes_26 : decode cX10_goes 26 = .ok (.if_icmp .eq 149, 3) := by decide +kernel
theorem dX10_goes_29 : decode cX10_goes 29 = .ok (.aload_n 0, 1) := by decide +kernel
theorem dX10_goes_30 : decode cX10_goes 30 = .ok (.iload_n 2, 1) := by decide +kernel
theorem dX10_goes_31 : decode cX10_goes 31 = .ok (.iconst 0, 1) := by decide +kernel
theorem dX10_goes_32 : decode cX10_goes 32 = .ok (.invokevirtual 63, 3) := by decide +kernel
theorem dX10_goes_35 : decode cX10_goes 35 = .ok (.aload_n 0, 1) := by decide +kernel
theorem dX10_goes_36 : decode cX10_goes 36 = .ok (.getfield 7, 3) := by decide +kernel
theorem dX10_goes_39 : decode cX10_goes 39 = .ok (.iconst 1, 1) := by decide +kernel
theorem dX10_goes_40 : decode cX10_goes 40 = .ok (.iaload, 1) := by decide +kernel
theorem dX10_goes_41 : decode cX10_goes 41 = .ok (.if_icmp .ge 12, 3) := by decide +kernel
theorem dX10_goes_44 : decode cX10_goes 44 = .ok (.aload_n 0, 1) := by decide +kernel
theorem dX10_goes_45 : decode cX10_goes 45 = .ok (.iload_n 2, 1) := by decide +kernel
theorem dX10_goes_46 : decode cX10_goes 46 = .ok (.iconst 0, 1) := by decide +kernel
theorem dX10_goes_47 : decode cX10_goes 47 = .ok (.invokevirtual 63, 3) := by decide +kernel
theorem dX10_goes_50 : decode cX10_goes 50 = .ok (.goto 9, 3) := by decide +kernel
theorem dX10_goes_53 : decode cX10_goes 53 = .ok (.aload_n 0, 1) := by decide +kernel
theorem dX10_goes_54 : decode cX10_goes 54 = .ok (.getfield 7, 3) := by decide +kernel
theorem dX10_goes_57 : decode cX10_goes 57 = .ok (.iconst 1, 1) := by decide +kernel
theorem dX10_goes_58 : decode cX10_goes 58 = .ok (.iaload, 1) := by decide +kernel
theorem dX10_goes_59 : decode cX10_goes 59 = .ok (.istore 4, 2) := by decide +kernel
theorem dX10_goes_61 : decode cX10_goes 61 = .ok (.aload_n 0, 1) := by decide +kernel
theorem dX10_goes_62 : decode cX10_goes 62 = .ok (.getfield 7, 3) := by decide +kernel
theorem dX10_goes_65 : decode cX10_goes 65 = .ok (.bipush 26, 2) := by decide +kernel
theorem dX10_goes_67 : decode cX10_goes 67 = .ok (.iconst 4, 1) := by decide +kernel
theorem dX10_goes_68 : decode cX10_goes 68 = .ok (.iload_n 2, 1) := by decide +kernel
theorem dX10_goes_69 : decode cX10_goes 69 = .ok (.imul, 1) := by decide +kernel
theorem dX10_goes_70 : decode cX10_goes 70 = .ok (.iadd, 1) := by decide +kernel
theorem dX10_goes_71 : decode cX10_goes 71 = .ok (.iconst 0, 1) := by decide +kernel
theorem dX10_goes_72 : decode cX10_goes 72 = .ok (.iadd, 1) := by decide +kernel
theorem dX10_goes_73 : decode cX10_goes 73 = .ok (.dup2, 1) := by decide +kernel
theorem dX10_goes_74 : decode cX10_goes 74 = .ok (.iaload, 1) := by decide +kernel
theorem dX10_goes_75 : decode cX10_goes 75 = .ok (.iload 4, 2) := by decide +kernel
theorem dX10_goes_77 : decode cX10_goes 77 = .ok (.isub, 1) := by decide +kernel
theorem dX10_goes_78 : decode cX10_goes 78 = .ok (.iastore, 1) := by decide +kernel
theorem dX10_goes_79 : decode cX10_goes 79 = .ok (.aload_n 0, 1) := by decide +kernel
theorem dX10_goes_80 : decode cX10_goes 80 = .ok (.getfield 7, 3) := by decide +kernel
theorem dX10_goes_83 : decode cX10_goes 83 = .ok (.bipush 26, 2) := by decide +kernel
theorem dX10_goes_85 : decode cX10_goes 85 = .ok (.iconst 4, 1) := by decide +kernel
theorem dX10_goes_86 : decode cX10_goes 86 = .ok (.iload_n 2, 1) := by decide +kernel
theorem dX10_goes_87 : decode cX10_goes 87 = .ok (.imul, 1) := by decide +kernel
theorem dX10_goes_88 : decode cX10_goes 88 = .ok (.iadd, 1) := by decide +kernel
theorem dX10_goes_89 : decode cX10_goes 89 = .ok (.iconst 3, 1) := by decide +kernel
theorem dX10_goes_90 : decode cX10_goes 90 = .ok (.iadd, 1) := by decide +kernel
theorem dX10_goes_91 : decode cX10_goes 91 = .ok (.dup2, 1) := by decide +kernel
theorem dX10_goes_92 : decode cX10_goes 92 = .ok (.iaload, 1) := by decide +kernel
theorem dX10_goes_93 : decode cX10_goes 93 = .ok (.iload 4, 2) := by decide +kernel
theorem dX10_goes_95 : decode cX10_goes 95 = .ok (.iadd, 1) := by decide +kernel
theorem dX10_goes_96 : decode cX10_goes 96 = .ok (.iastore, 1) := by decide +kernel
theorem dX10_goes_97 : decode cX10_goes 97 = .ok (.aload_n 0, 1) := by decide +kernel
theorem dX10_goes_98 : decode cX10_goes 98 = .ok (.getfield 7, 3) := by decide +kernel
theorem dX10_goes_101 : decode cX10_goes 101 = .ok (.iload_n 3, 1) := by decide +kernel
theorem dX10_goes_102 : decode cX10_goes 102 = .ok (.iconst 0, 1) := by decide +kernel
theorem dX10_goes_103 : decode cX10_goes 103 = .ok (.iadd, 1) := by decide +kernel
theorem dX10_goes_104 : decode cX10_goes 104 = .ok (.iload_n 2, 1) := by decide +kernel
theorem dX10_goes_105 : decode cX10_goes 105 = .ok (.iconst 1, 1) := by decide +kernel
theorem dX10_goes_106 : decode cX10_goes 106 = .ok (.iadd, 1) := by decide +kernel
theorem dX10_goes_107 : decode cX10_goes 107 = .ok (.iastore, 1) := by decide +kernel
theorem dX10_goes_108 : decode cX10_goes 108 = .ok (.aload_n 0, 1) := by decide +kernel
theorem dX10_goes_109 : decode cX10_goes 109 = .ok (.getfield 7, 3) := by decide +kernel
theorem dX10_goes_112 : decode cX10_goes 112 = .ok (.iload_n 3, 1) := by decide +kernel
theorem dX10_goes_113 : decode cX10_goes 113 = .ok (.iconst 1, 1) := by decide +kernel
theorem dX10_goes_114 : decode cX10_goes 114 = .ok (.iadd, 1) := by decide +kernel
theorem dX10_goes_115 : decode cX10_goes 115 = .ok (.iload 4, 2) := by decide +kernel
theorem dX10_goes_117 : decode cX10_goes 117 = .ok (.iastore, 1) := by decide +kernel
theorem dX10_goes_118 : decode cX10_goes 118 = .ok (.aload_n 0, 1) := by decide +kernel
theorem dX10_goes_119 : decode cX10_goes 119 = .ok (.getfield 7, 3) := by decide +kernel
theorem dX10_goes_122 : decode cX10_goes 122 = .ok (.iload_n 3, 1) := by decide +kernel
theorem dX10_goes_123 : decode cX10_goes 123 = .ok (.iconst 2, 1) := by decide +kernel
theorem dX10_goes_124 : decode cX10_goes 124 = .ok (.iadd, 1) := by decide +kernel
theorem dX10_goes_125 : decode cX10_goes 125 = .ok (.aload_n 0, 1) := by decide +kernel
theorem dX10_goes_126 : decode cX10_goes 126 = .ok (.getfield 7, 3) := by decide +kernel
theorem dX10_goes_129 : decode cX10_goes 129 = .ok (.bipush 6, 2) := by decide +kernel
theorem dX10_goes_131 : decode cX10_goes 131 = .ok (.iaload, 1) := by decide +kernel
theorem dX10_goes_132 : decode cX10_goes 132 = .ok (.aload_n 0, 1) := by decide +kernel
theorem dX10_goes_133 : decode cX10_goes 133 = .ok (.iload_n 2, 1) := by decide +kernel
theorem dX10_goes_134 : decode cX10_goes 134 = .ok (.iconst 2, 1) := by decide +kernel
theorem dX10_goes_135 : decode cX10_goes 135 = .ok (.invokevirtual 63, 3) := by decide +kernel
theorem dX10_goes_138 : decode cX10_goes 138 = .ok (.iadd, 1) := by decide +kernel
theorem dX10_goes_139 : decode cX10_goes 139 = .ok (.iastore, 1) := by decide +kernel
theorem dX10_goes_140 : decode cX10_goes 140 = .ok (.aload_n 0, 1) := by decide +kernel
theorem dX10_goes_141 : decode cX10_goes 141 = .ok (.getfield 7, 3) := by decide +kernel
theorem dX10_goes_144 : decode cX10_goes 144 = .ok (.iload_n 3, 1) := by decide +kernel
theorem dX10_goes_145 : decode cX10_goes 145 = .ok (.iconst 3, 1) := by decide +kernel
theorem dX10_goes_146 : decode cX10_goes 146 = .ok (.iadd, 1) := by decide +kernel
theorem dX10_goes_147 : decode cX10_goes 147 = .ok (.dup2, 1) := by decide +kernel
theorem dX10_goes_148 : decode cX10_goes 148 = .ok (.iaload, 1) := by decide +kernel
theorem dX10_goes_149 : decode cX10_goes 149 = .ok (.iconst 1, 1) := by decide +kernel
theorem dX10_goes_150 : decode cX10_goes 150 = .ok (.iadd, 1) := by decide +kernel
theorem dX10_goes_151 : decode cX10_goes 151 = .ok (.iastore, 1) := by decide +kernel
theorem dX10_goes_152 : decode cX10_goes 152 = .ok (.aload_n 0, 1) := by decide +kernel
theorem dX10_goes_153 : decode cX10_goes 153 = .ok (.getfield 7, 3) := by decide +kernel
theorem dX10_goes_156 : decode cX10_goes 156 = .ok (.bipush 13, 2) := by decide +kernel
theorem dX10_goes_158 : decode cX10_goes 158 = .ok (.dup2, 1) := by decide +kernel
theorem dX10_goes_159 : decode cX10_goes 159 = .ok (.iaload, 1) := by decide +kernel
theorem dX10_goes_160 : decode cX10_goes 160 = .ok (.aload_n 0, 1) := by decide +kernel
theorem dX10_goes_161 : decode cX10_goes 161 = .ok (.getfield 7, 3) := by decide +kernel
theorem dX10_goes_164 : decode cX10_goes 164 = .ok (.iconst 5, 1) := by decide +kernel
theorem dX10_goes_165 : decode cX10_goes 165 = .ok (.iaload, 1) := by decide +kernel
theorem dX10_goes_166 : decode cX10_goes 166 = .ok (.aload_n 0, 1) := by decide +kernel
theorem dX10_goes_167 : decode cX10_goes 167 = .ok (.iload_n 2, 1) := by decide +kernel
theorem dX10_goes_168 : decode cX10_goes 168 = .ok (.iconst 2, 1) := by decide +kernel
theorem dX10_goes_169 : decode cX10_goes 169 = .ok (.invokevirtual 63, 3) := by decide +kernel
theorem dX10_goes_172 : decode cX10_goes 172 = .ok (.imul, 1) := by decide +kernel
theorem dX10_goes_173 : decode cX10_goes 173 = .ok (.iadd, 1) := by decide +kernel
theorem dX10_goes_174 : decode cX10_goes 174 = .ok (.iastore, 1) := by decide +kernel
theorem dX10_goes_175 : decode cX10_goes 175 = .ok (.return_, 1) := by decide +kernel
set_option maxRecDepth 20000 in
theorem ggX10_crushes_X10_capacity : GoodIn wsX10_crushes wsX10_capacity := goodIn_r _ [6, 1, 7, 8, 9, 10, 11, 12, 13, 14, 15, 16, 17, 18, 19, 20, 21] (by decide +kernel) (by decide +kernel)
set_option maxRecDepth 20000 in
theorem gX10_crushes_X10_capacity : GoodIn wsX10_crushes (wsV RX10 70 RX10 yX10_capacity wsX10_capacity) := goodIn_app (goodIn_of _ (by decide +kernel)) ggX10_crushes_X10_capacity
theorem dX10_crushes_0 : decode cX10_crushes 0 = .ok (.aload_n 0, 1) := by decide +kernel
theorem dX10_crushes_1 : decode cX10_crushes 1 = .ok (.invokevirtual 70, 3) := by decide +kernel
theorem dX10_crushes_4 : decode cX10_crushes 4 = .ok (.istore_n 1, 1) := by decide +kernel
theorem dX10_crushes_5 : decode cX10_crushes 5 = .ok (.aload_n 0, 1) := by decide +kernel
theorem dX10_crushes_6 : decode cX10_crushes 6 = .ok (.getfield 7, 3) := by decide +kernel
theorem dX10_crushes_9 : decode cX10_crushes 9 = .ok (.iconst 3, 1) := by decide +kernel
theorem dX10_crushes_10 : decode cX10_crushes 10 = .ok (.iaload, 1) := by decide +kernel
theorem dX10_crushes_11 : decode cX10_crushes 11 = .ok (.istore_n 2, 1) := by decide +kernel
theorem dX10_crushes_12 : decode cX10_crushes 12 = .ok (.iconst 1, 1) := by decide +kernel
theorem dX10_crushes_13 : decode cX10_crushes 13 = .ok (.istore_n 3, 1) := by decide +kernel
theorem dX10_crushes_14 : decode cX10_crushes 14 = .ok (.iload_n 3, 1) := by decide +kernel
theorem dX10_crushes_15 : decode cX10_crushes 15 = .ok (.bipush 10, 2) := by decide +kernel
theorem dX10_crushes_17 : decode cX10_crushes 17 = .ok (.if_icmp .ge 152, 3) := by decide +kernel
theorem dX10_crushes_20 : decode cX10_crushes 20 = .ok (.aload_n 0, 1) := by decide +kernel
theorem dX10_crushes_21 : decode cX10_crushes 21 = .ok (.getfield 7, 3) := by decide +kernel
theorem dX10_crushes_24 : decode cX10_crushes 24 = .ok (.bipush 16, 2) := by decide +kernel
theorem dX10_crushes_26 : decode cX10_crushes 26 = .ok (.iload_n 3, 1) := by decide +kernel
theorem dX10_crushes_27 : decode cX10_crushes 27 = .ok (.iadd, 1) := by decide +kernel
theorem dX10_crushes_28 : decode cX10_crushes 28 = .ok (.iaload, 1) := by decide +kernel
theorem dX10_crushes_29 : decode cX10_crushes 29 = .ok (.iload_n 1, 1) := by decide +kernel
theorem dX10_crushes_30 : decode cX10_crushes 30 = .ok (.if_icmp .ge 15, 3) := by decide +kernel
theorem dX10_crushes_33 : decode cX10_crushes 33 = .ok (.aload_n 0, 1) := by decide +kernel
theorem dX10_crushes_34 : decode cX10_crushes 34 = .ok (.getfield 7, 3) := by decide +kernel
theorem dX10_crushes_37 : decode cX10_crushes 37 = .ok (.bipush 16, 2) := by decide +kernel
theorem dX10_crushes_39 : decode cX10_crushes 39 = .ok (.iload_n 3, 1) := by decide +kernel
theorem dX10_crushes_40 : decode cX10_crushes 40 = .ok (.iadd, 1) := by decide +kernel
theorem dX10_crushes_41 : decode cX10_crushes 41 = .ok (.iaload, 1) := by decide +kernel
theorem dX10_crushes_42 : decode cX10_crushes 42 = .ok (.goto 4, 3) := by decide +kernel
theorem dX10_crushes_45 : decode cX10_crushes 45 = .ok (.iload_n 1, 1) := by decide +kernel
theorem dX10_crushes_46 : decode cX10_crushes 46 = .ok (.istore 4, 2) := by decide +kernel
theorem dX10_crushes_48 : decode cX10_crushes 48 = .ok (.iload 4, 2) := by decide +kernel
theorem dX10_crushes_50 : decode cX10_crushes 50 = .ok (.bipush 10, 2) := by decide +kernel
theorem dX10_crushes_52 : decode cX10_crushes 52 = .ok (.iload_n 2, 1) := by decide +kernel
theorem dX10_crushes_53 : decode cX10_crushes 53 = .ok (.isub, 1) := by decide +kernel
theorem dX10_crushes_54 : decode cX10_crushes 54 = .ok (.imul, 1) := by decide +kernel
theorem dX10_crushes_55 : decode cX10_crushes 55 = .ok (.bipush 10, 2) := by decide +kernel
theorem dX10_crushes_57 : decode cX10_crushes 57 = .ok (.iload_n 3, 1) := by decide +kernel
theorem dX10_crushes_58 : decode cX10_crushes 58 = .ok (.isub, 1) := by decide +kernel
theorem dX10_crushes_59 : decode cX10_crushes 59 = .ok (.imul, 1) := by decide +kernel
theorem dX10_crushes_60 : decode cX10_crushes 60 = .ok (.bipush 100, 2) := by decide +kernel
theorem dX10_crushes_62 : decode cX10_crushes 62 = .ok (.idiv, 1) := by decide +kernel
theorem dX10_crushes_63 : decode cX10_crushes 63 = .ok (.istore 5, 2) := by decide +kernel
theorem dX10_crushes_65 : decode cX10_crushes 65 = .ok (.iload 4, 2) := by decide +kernel
theorem dX10_crushes_67 : decode cX10_crushes 67 = .ok (.iload_n 2, 1) := by decide +kernel
theorem dX10_crushes_68 : decode cX10_crushes 68 = .ok (.imul, 1) := by decide +kernel
theorem dX10_crushes_69 : decode cX10_crushes 69 = .ok (.iload_n 3, 1) := by decide +kernel
theorem dX10_crushes_70 : decode cX10_crushes 70 = .ok (.imul, 1) := by decide +kernel
theorem dX10_crushes_71 : decode cX10_crushes 71 = .ok (.bipush 100, 2) := by decide +kernel
theorem dX10_crushes_73 : decode cX10_crushes 73 = .ok (.idiv, 1) := by decide +kernel
theorem dX10_crushes_74 : decode cX10_crushes 74 = .ok (.istore 6, 2) := by decide +kernel
theorem dX10_crushes_76 : decode cX10_crushes 76 = .ok (.iload_n 1, 1) := by decide +kernel
theorem dX10_crushes_77 : decode cX10_crushes 77 = .ok (.iload 4, 2) := by decide +kernel
theorem dX10_crushes_79 : decode cX10_crushes 79 = .ok (.isub, 1) := by decide +kernel
theorem dX10_crushes_80 : decode cX10_crushes 80 = .ok (.istore_n 1, 1) := by decide +kernel
theorem dX10_crushes_81 : decode cX10_crushes 81 = .ok (.aload_n 0, 1) := by decide +kernel
theorem dX10_crushes_82 : decode cX10_crushes 82 = .ok (.getfield 7, 3) := by decide +kernel
theorem dX10_crushes_85 : decode cX10_crushes 85 = .ok (.bipush 16, 2) := by decide +kernel
theorem dX10_crushes_87 : decode cX10_crushes 87 = .ok (.iload_n 3, 1) := by decide +kernel
theorem dX10_crushes_88 : decode cX10_crushes 88 = .ok (.iadd, 1) := by decide +kernel
theorem dX10_crushes_89 : decode cX10_crushes 89 = .ok (.dup2, 1) := by decide +kernel
theorem dX10_crushes_90 : decode cX10_crushes 90 = .ok (.iaload, 1) := by decide +kernel
theorem dX10_crushes_91 : decode cX10_crushes 91 = .ok (.iload 4, 2) := by decide +kernel
theorem dX10_crushes_93 : decode cX10_crushes 93 = .ok (.isub, 1) := by decide +kernel
theorem dX10_crushes_94 : decode cX10_crushes 94 = .ok (.iastore, 1) := by decide +kernel
theorem dX10_crushes_95 : decode cX10_crushes 95 = .ok (.aload_n 0, 1) := by decide +kernel
theorem dX10_crushes_96 : decode cX10_crushes 96 = .ok (.getfield 7, 3) := by decide +kernel
theorem dX10_crushes_99 : decode cX10_crushes 99 = .ok (.bipush 14, 2) := by decide +kernel
theorem dX10_crushes_101 : decode cX10_crushes 101 = .ok (.dup2, 1) := by decide +kernel
theorem dX10_crushes_102 : decode cX10_crushes 102 = .ok (.iaload, 1) := by decide +kernel
theorem dX10_crushes_103 : decode cX10_crushes 103 = .ok (.iload 5, 2) := by decide +kernel
theorem dX10_crushes_105 : decode cX10_crushes 105 = .ok (.iadd, 1) := by decide +kernel
theorem dX10_crushes_106 : decode cX10_crushes 106 = .ok (.iastore, 1) := by decide +kernel
theorem dX10_crushes_107 : decode cX10_crushes 107 = .ok (.aload_n 0, 1) := by decide +kernel
theorem dX10_crushes_108 : decode cX10_crushes 108 = .ok (.getfield 7, 3) := by decide +kernel
theorem dX10_crushes_111 : decode cX10_crushes 111 = .ok (.bipush 15, 2) := by decide +kernel
theorem dX10_crushes_113 : decode cX10_crushes 113 = .ok (.dup2, 1) := by decide +kernel
theorem dX10_crushes_114 : decode cX10_crushes 114 = .ok (.iaload, 1) := by decide +kernel
theorem dX10_crushes_115 : decode cX10_crushes 115 = .ok (.iload 4, 2) := by decide +kernel
theorem dX10_crushes_117 : decode cX10_crushes 117 = .ok (.iload 5, 2) := by decide +kernel
theorem dX10_crushes_119 : decode cX10_crushes 119 = .ok (.isub, 1) := by decide +kernel
theorem dX10_crushes_120 : decode cX10_crushes 120 = .ok (.iload 6, 2) := by decide +kernel
theorem dX10_crushes_122 : decode cX10_crushes 122 = .ok (.isub, 1) := by decide +kernel
theorem dX10_crushes_123 : decode cX10_crushes 123 = .ok (.iadd, 1) := by decide +kernel
theorem dX10_crushes_124 : decode cX10_crushes 124 = .ok (.iastore, 1) := by decide +kernel
theorem dX10_crushes_125 : decode cX10_crushes 125 = .ok (.aload_n 0, 1) := by decide +kernel
theorem dX10_crushes_126 : decode cX10_crushes 126 = .ok (.getfield 7, 3) := by decide +kernel
theorem dX10_crushes_129 : decode cX10_crushes 129 = .ok (.bipush 16, 2) := by decide +kernel
theorem dX10_crushes_131 : decode cX10_crushes 131 = .ok (.dup2, 1) := by decide +kernel
theorem dX10_crushes_132 : decode cX10_crushes 132 = .ok (.iaload, 1) := by decide +kernel
theorem dX10_crushes_133 : decode cX10_crushes 133 = .ok (.iload 6, 2) := by decide +kernel
theorem dX10_crushes_135 : decode cX10_crushes 135 = .ok (.iadd, 1) := by decide +kernel
theorem dX10_crushes_136 : decode cX10_crushes 136 = .ok (.iastore, 1) := by decide +kernel
theorem dX10_crushes_137 : decode cX10_crushes 137 = .ok (.aload_n 0, 1) := by decide +kernel
theorem dX10_crushes_138 : decode cX10_crushes 138 = .ok (.getfield 7, 3) := by decide +kernel
theorem dX10_crushes_141 : decode cX10_crushes 141 = .ok (.bipush 9, 2) := by decide +kernel
theorem dX10_crushes_143 : decode cX10_crushes 143 = .ok (.dup2, 1) := by decide +kernel
theorem dX10_crushes_144 : decode cX10_crushes 144 = .ok (.iaload, 1) := by decide +kernel
theorem dX10_crushes_145 : decode cX10_crushes 145 = .ok (.iload 4, 2) := by decide +kernel
theorem dX10_crushes_147 : decode cX10_crushes 147 = .ok (.iadd, 1) := by decide +kernel
theorem dX10_crushes_148 : decode cX10_crushes 148 = .ok (.iastore, 1) := by decide +kernel
theorem dX10_crushes_149 : decode cX10_crushes 149 = .ok (.aload_n 0, 1) := by decide +kernel
theorem dX10_crushes_150 : decode cX10_crushes 150 = .ok (.getfield 7, 3) := by decide +kernel
theorem dX10_crushes_153 : decode cX10_crushes 153 = .ok (.bipush 10, 2) := by decide +kernel
theorem dX10_crushes_155 : decode cX10_crushes 155 = .ok (.dup2, 1) := by decide +kernel
theorem dX10_crushes_156 : decode cX10_crushes 156 = .ok (.iaload, 1) := by decide +kernel
theorem dX10_crushes_157 : decode cX10_crushes 157 = .ok (.iload 4, 2) := by decide +kernel
theorem dX10_crushes_159 : decode cX10_crushes 159 = .ok (.iload_n 3, 1) := by decide +kernel
theorem dX10_crushes_160 : decode cX10_crushes 160 = .ok (.imul, 1) := by decide +kernel
theorem dX10_crushes_161 : decode cX10_crushes 161 = .ok (.iadd, 1) := by decide +kernel
theorem dX10_crushes_162 : decode cX10_crushes 162 = .ok (.iastore, 1) := by decide +kernel
theorem dX10_crushes_163 : decode cX10_crushes 163 = .ok (.iinc 3 1, 3) := by decide +kernel
theorem dX10_crushes_166 : decode cX10_crushes 166 = .ok (.goto (-152), 3) := by decide +kernel
theorem dX10_crushes_169 : decode cX10_crushes 169 = .ok (.return_, 1) := by decide +kernel
set_option maxRecDepth 20000 in
theorem ggX10_hour_X10_comesBack : GoodIn wsX10_hour wsX10_comesBack := goodIn_r _ [6, 1, 7, 8, 9, 5, 10, 27, 28, 29, 30, 31, 32, 33, 34, 35, 36, 37, 38, 39, 40, 41] (by decide +kernel) (by decide +kernel)
set_option maxRecDepth 20000 in
theorem gX10_hour_X10_comesBack : GoodIn wsX10_hour (wsV RX10 73 RX10 yX10_comesBack wsX10_comesBack) := goodIn_app (goodIn_of _ (by decide +kernel)) ggX10_hour_X10_comesBack
set_option maxRecDepth 20000 in
theorem ggX10_hour_X10_goes : GoodIn wsX10_hour wsX10_goes := goodIn_r _ [14, 1, 15, 16, 17, 5, 18, 7, 8, 9, 10, 27, 28, 29, 30, 31, 32, 33, 34, 35, 36, 37, 38, 39, 40, 41] (by decide +kernel) (by decide +kernel)
set_option maxRecDepth 20000 in
theorem gX10_hour_X10_goes : GoodIn wsX10_hour (wsV RX10 76 RX10 yX10_goes wsX10_goes) := goodIn_app (goodIn_of _ (by decide +kernel)) ggX10_hour_X10_goes
set_option maxRecDepth 20000 in
theorem ggX10_hour_X10_crushes : GoodIn wsX10_hour wsX10_crushes := goodIn_r _ [22, 1, 23, 24, 25, 5, 26, 27, 28, 29, 30, 31, 32, 33, 34, 35, 36, 37, 38, 39, 40, 41] (by decide +kernel) (by decide +kernel)
set_option maxRecDepth 20000 in
theorem gX10_hour_X10_crushes : GoodIn wsX10_hour (wsV RX10 79 RX10 yX10_crushes wsX10_crushes) := goodIn_app (goodIn_of _ (by decide +kernel)) ggX10_hour_X10_crushes
theorem dX10_hour_0 : decode cX10_hour 0 = .ok (.iconst 0, 1) := by decide +kernel
theorem dX10_hour_1 : decode cX10_hour 1 = .ok (.istore_n 1, 1) := by decide +kernel
theorem dX10_hour_2 : decode cX10_hour 2 = .ok (.iload_n 1, 1) := by decide +kernel
theorem dX10_hour_3 : decode cX10_hour 3 = .ok (.aload_n 0, 1) := by decide +kernel
theorem dX10_hour_4 : decode cX10_hour 4 = .ok (.getfield 7, 3) := by decide +kernel
theorem dX10_hour_7 : decode cX10_hour 7 = .ok (.iconst 0, 1) := by decide +kernel
theorem dX10_hour_8 : decode cX10_hour 8 = .ok (.iaload, 1) := by decide +kernel
theorem dX10_hour_9 : decode cX10_hour 9 = .ok (.if_icmp .ge 14, 3) := by decide +kernel
theorem dX10_hour_12 : decode cX10_hour 12 = .ok (.aload_n 0, 1) := by decide +kernel
theorem dX10_hour_13 : decode cX10_hour 13 = .ok (.iload_n 1, 1) := by decide +kernel
theorem dX10_hour_14 : decode cX10_hour 14 = .ok (.invokevirtual 73, 3) := by decide +kernel
theorem dX10_hour_17 : decode cX10_hour 17 = .ok (.iinc 1 1, 3) := by decide +kernel
theorem dX10_hour_20 : decode cX10_hour 20 = .ok (.goto (-18), 3) := by decide +kernel
theorem dX10_hour_23 : decode cX10_hour 23 = .ok (.iconst 0, 1) := by decide +kernel
theorem dX10_hour_24 : decode cX10_hour 24 = .ok (.istore_n 1, 1) := by decide +kernel
theorem dX10_hour_25 : decode cX10_hour 25 = .ok (.iload_n 1, 1) := by decide +kernel
theorem dX10_hour_26 : decode cX10_hour 26 = .ok (.aload_n 0, 1) := by decide +kernel
theorem dX10_hour_27 : decode cX10_hour 27 = .ok (.getfield 7, 3) := by decide +kernel
theorem dX10_hour_30 : decode cX10_hour 30 = .ok (.iconst 0, 1) := by decide +kernel
theorem dX10_hour_31 : decode cX10_hour 31 = .ok (.iaload, 1) := by decide +kernel
theorem dX10_hour_32 : decode cX10_hour 32 = .ok (.if_icmp .ge 14, 3) := by decide +kernel
theorem dX10_hour_35 : decode cX10_hour 35 = .ok (.aload_n 0, 1) := by decide +kernel
theorem dX10_hour_36 : decode cX10_hour 36 = .ok (.iload_n 1, 1) := by decide +kernel
theorem dX10_hour_37 : decode cX10_hour 37 = .ok (.invokevirtual 76, 3) := by decide +kernel
theorem dX10_hour_40 : decode cX10_hour 40 = .ok (.iinc 1 1, 3) := by decide +kernel
theorem dX10_hour_43 : decode cX10_hour 43 = .ok (.goto (-18), 3) := by decide +kernel
theorem dX10_hour_46 : decode cX10_hour 46 = .ok (.aload_n 0, 1) := by decide +kernel
theorem dX10_hour_47 : decode cX10_hour 47 = .ok (.invokevirtual 79, 3) := by decide +kernel
theorem dX10_hour_50 : decode cX10_hour 50 = .ok (.aload_n 0, 1) := by decide +kernel
theorem dX10_hour_51 : decode cX10_hour 51 = .ok (.getfield 7, 3) := by decide +kernel
theorem dX10_hour_54 : decode cX10_hour 54 = .ok (.bipush 6, 2) := by decide +kernel
theorem dX10_hour_56 : decode cX10_hour 56 = .ok (.dup2, 1) := by decide +kernel
theorem dX10_hour_57 : decode cX10_hour 57 = .ok (.iaload, 1) := by decide +kernel
theorem dX10_hour_58 : decode cX10_hour 58 = .ok (.iconst 1, 1) := by decide +kernel
theorem dX10_hour_59 : decode cX10_hour 59 = .ok (.iadd, 1) := by decide +kernel
theorem dX10_hour_60 : decode cX10_hour 60 = .ok (.iastore, 1) := by decide +kernel
theorem dX10_hour_61 : decode cX10_hour 61 = .ok (.return_, 1) := by decide +kernel
set_option maxRecDepth 20000 in
theorem ggX10_days_X10_hour : GoodIn wsX10_days wsX10_hour := goodIn_r _ [6, 1, 7, 8, 9, 5, 10, 11, 12, 13, 14, 15, 16, 17, 18, 19, 20, 21, 22, 23, 24, 25, 26, 27, 28, 29, 30, 60, 61, 62, 63, 64, 65, 66, 67, 68, 69, 70, 71, 72, 73, 74] (by decide +kernel) (by decide +kernel)
set_option maxRecDepth 20000 in
theorem gX10_days_X10_hour : GoodIn wsX10_days (wsV RX10 82 RX10 yX10_hour wsX10_hour) := goodIn_app (goodIn_of _ (by decide +kernel)) ggX10_days_X10_hour
set_option maxRecDepth 20000 in
theorem ggX10_days_X10_reason : GoodIn wsX10_days wsX10_reason := goodIn_r _ [34, 1, 35, 36, 37, 5, 38, 39, 40, 41, 42, 43, 44, 45, 46, 47, 48, 49, 50, 51, 60, 61, 62, 63, 64, 65, 66, 67, 68, 69, 70, 71, 72, 73, 74] (by decide +kernel) (by decide +kernel)
set_option maxRecDepth 20000 in
theorem gX10_days_X10_reason : GoodIn wsX10_days (wsV RX10 85 RX10 yX10_reason wsX10_reason) := goodIn_app (goodIn_of _ (by decide +kernel)) ggX10_days_X10_reason
set_option maxRecDepth 20000 in
theorem ggX10_days_X10_delivers : GoodIn wsX10_days wsX10_delivers := goodIn_r _ [55, 1, 50, 51, 35, 36, 37, 5, 38, 56, 57, 58, 59, 60, 61, 62, 63, 64, 65, 66, 67, 68, 69, 70, 71, 72, 73, 74] (by decide +kernel) (by decide +kernel)
set_option maxRecDepth 20000 in
theorem gX10_days_X10_delivers : GoodIn wsX10_days (wsV RX10 89 RX10 yX10_delivers wsX10_delivers) := goodIn_app (goodIn_of _ (by decide +kernel)) ggX10_days_X10_delivers
theorem dX10_days_0 : decode cX10_days 0 = .ok (.aload_n 0, 1) := by decide +kernel
theorem dX10_days_1 : decode cX10_days 1 = .ok (.getfield 7, 3) := by decide +kernel
theorem dX10_days_4 : decode cX10_days 4 = .ok (.bipush 11, 2) := by decide +kernel
theorem dX10_days_6 : decode cX10_days 6 = .ok (.iaload, 1) := by decide +kernel
theorem dX10_days_7 : decode cX10_days 7 = .ok (.istore_n 2, 1) := by decide +kernel
theorem dX10_days_8 : decode cX10_days 8 = .ok (.iconst 0, 1) := by decide +kernel
theorem dX10_days_9 : decode cX10_days 9 = .ok (.istore_n 3, 1) := by decide +kernel
theorem dX10_days_10 : decode cX10_days 10 = .ok (.iload_n 3, 1) := by decide +kernel
theorem dX10_days_11 : decode cX10_days 11 = .ok (.iload_n 1, 1) := by decide +kernel
theorem dX10_days_12 : decode cX10_days 12 = .ok (.if_icmp .ge 72, 3) := by decide +kernel
theorem dX10_days_15 : decode cX10_days 15 = .ok (.iconst 0, 1) := by decide +kernel
theorem dX10_days_16 : decode cX10_days 16 = .ok (.istore 4, 2) := by decide +kernel
theorem dX10_days_18 : decode cX10_days 18 = .ok (.iload 4, 2) := by decide +kernel
theorem dX10_days_20 : decode cX10_days 20 = .ok (.aload_n 0, 1) := by decide +kernel
theorem dX10_days_21 : decode cX10_days 21 = .ok (.getfield 7, 3) := by decide +kernel
theorem dX10_days_24 : decode cX10_days 24 = .ok (.iconst 2, 1) := by decide +kernel
theorem dX10_days_25 : decode cX10_days 25 = .ok (.iaload, 1) := by decide +kernel
theorem dX10_days_26 : decode cX10_days 26 = .ok (.if_icmp .ge 13, 3) := by decide +kernel
theorem dX10_days_29 : decode cX10_days 29 = .ok (.aload_n 0, 1) := by decide +kernel
theorem dX10_days_30 : decode cX10_days 30 = .ok (.invokevirtual 82, 3) := by decide +kernel
theorem dX10_days_33 : decode cX10_days 33 = .ok (.iinc 4 1, 3) := by decide +kernel
theorem dX10_days_36 : decode cX10_days 36 = .ok (.goto (-18), 3) := by decide +kernel
theorem dX10_days_39 : decode cX10_days 39 = .ok (.iconst 0, 1) := by decide +kernel
theorem dX10_days_40 : decode cX10_days 40 = .ok (.istore 4, 2) := by decide +kernel
theorem dX10_days_42 : decode cX10_days 42 = .ok (.iload 4, 2) := by decide +kernel
theorem dX10_days_44 : decode cX10_days 44 = .ok (.aload_n 0, 1) := by decide +kernel
theorem dX10_days_45 : decode cX10_days 45 = .ok (.getfield 7, 3) := by decide +kernel
theorem dX10_days_48 : decode cX10_days 48 = .ok (.bipush 8, 2) := by decide +kernel
theorem dX10_days_50 : decode cX10_days 50 = .ok (.iaload, 1) := by decide +kernel
theorem dX10_days_51 : decode cX10_days 51 = .ok (.if_icmp .ge 27, 3) := by decide +kernel
theorem dX10_days_54 : decode cX10_days 54 = .ok (.aload_n 0, 1) := by decide +kernel
theorem dX10_days_55 : decode cX10_days 55 = .ok (.iload 4, 2) := by decide +kernel
theorem dX10_days_57 : decode cX10_days 57 = .ok (.invokevirtual 85, 3) := by decide +kernel
theorem dX10_days_60 : decode cX10_days 60 = .ok (.ifCond .ne 12, 3) := by decide +kernel
theorem dX10_days_63 : decode cX10_days 63 = .ok (.aload_n 0, 1) := by decide +kernel
theorem dX10_days_64 : decode cX10_days 64 = .ok (.iload 4, 2) := by decide +kernel
theorem dX10_days_66 : decode cX10_days 66 = .ok (.invokevirtual 89, 3) := by decide +kernel
theorem dX10_days_69 : decode cX10_days 69 = .ok (.goto (-27), 3) := by decide +kernel
theorem dX10_days_72 : decode cX10_days 72 = .ok (.iinc 4 1, 3) := by decide +kernel
theorem dX10_days_75 : decode cX10_days 75 = .ok (.goto (-33), 3) := by decide +kernel
theorem dX10_days_78 : decode cX10_days 78 = .ok (.iinc 3 1, 3) := by decide +kernel
theorem dX10_days_81 : decode cX10_days 81 = .ok (.goto (-71), 3) := by decide +kernel
theorem dX10_days_84 : decode cX10_days 84 = .ok (.aload_n 0, 1) := by decide +kernel
theorem dX10_days_85 : decode cX10_days 85 = .ok (.getfield 7, 3) := by decide +kernel
theorem dX10_days_88 : decode cX10_days 88 = .ok (.bipush 11, 2) := by decide +kernel
theorem dX10_days_90 : decode cX10_days 90 = .ok (.iaload, 1) := by decide +kernel
theorem dX10_days_91 : decode cX10_days 91 = .ok (.iload_n 2, 1) := by decide +kernel
theorem dX10_days_92 : decode cX10_days 92 = .ok (.isub, 1) := by decide +kernel
theorem dX10_days_93 : decode cX10_days 93 = .ok (.ireturn, 1) := by decide +kernel
set_option maxRecDepth 20000 in
theorem ggX10_isSetting_X10_in : GoodIn wsX10_isSetting wsX10_in := goodIn_r _ [4] (by decide +kernel) (by decide +kernel)
set_option maxRecDepth 20000 in
theorem gX10_isSetting_X10_in : GoodIn wsX10_isSetting (va_wsS RX10 92 yX10_in wsX10_in) := goodIn_app (goodIn_of _ (by decide +kernel)) ggX10_isSetting_X10_in
theorem dX10_isSetting_0 : decode cX10_isSetting 0 = .ok (.iload_n 0, 1) := by decide +kernel
theorem dX10_isSetting_1 : decode cX10_isSetting 1 = .ok (.tableswitch 88 0 5 #[39, 47, 55, 63, 71, 80], 39) := by decide +kernel
theorem dX10_isSetting_40 : decode cX10_isSetting 40 = .ok (.iload_n 1, 1) := by decide +kernel
theorem dX10_isSetting_41 : decode cX10_isSetting 41 = .ok (.iconst 0, 1) := by decide +kernel
theorem dX10_isSetting_42 : decode cX10_isSetting 42 = .ok (.bipush 20, 2) := by decide +kernel
theorem dX10_isSetting_44 : decode cX10_isSetting 44 = .ok (.invokestatic 92, 3) := by decide +kernel
theorem dX10_isSetting_47 : decode cX10_isSetting 47 = .ok (.ireturn, 1) := by decide +kernel
theorem dX10_isSetting_48 : decode cX10_isSetting 48 = .ok (.iload_n 1, 1) := by decide +kernel
theorem dX10_isSetting_49 : decode cX10_isSetting 49 = .ok (.iconst 1, 1) := by decide +kernel
theorem dX10_isSetting_50 : decode cX10_isSetting 50 = .ok (.bipush 40, 2) := by decide +kernel
theorem dX10_isSetting_52 : decode cX10_isSetting 52 = .ok (.invokestatic 92, 3) := by decide +kernel
theorem dX10_isSetting_55 : decode cX10_isSetting 55 = .ok (.ireturn, 1) := by decide +kernel
theorem dX10_isSetting_56 : decode cX10_isSetting 56 = .ok (.iload_n 1, 1) := by decide +kernel
theorem dX10_isSetting_57 : decode cX10_isSetting 57 = .ok (.iconst 1, 1) := by decide +kernel
theorem dX10_isSetting_58 : decode cX10_isSetting 58 = .ok (.bipush 24, 2) := by decide +kernel
theorem dX10_isSetting_60 : decode cX10_isSetting 60 = .ok (.invokestatic 92, 3) := by decide +kernel
theorem dX10_isSetting_63 : decode cX10_isSetting 63 = .ok (.ireturn, 1) := by decide +kernel
theorem dX10_isSetting_64 : decode cX10_isSetting 64 = .ok (.iload_n 1, 1) := by decide +kernel
theorem dX10_isSetting_65 : decode cX10_isSetting 65 = .ok (.iconst 1, 1) := by decide +kernel
theorem dX10_isSetting_66 : decode cX10_isSetting 66 = .ok (.bipush 9, 2) := by decide +kernel
theorem dX10_isSetting_68 : decode cX10_isSetting 68 = .ok (.invokestatic 92, 3) := by decide +kernel
theorem dX10_isSetting_71 : decode cX10_isSetting 71 = .ok (.ireturn, 1) := by decide +kernel
theorem dX10_isSetting_72 : decode cX10_isSetting 72 = .ok (.iload_n 1, 1) := by decide +kernel
theorem dX10_isSetting_73 : decode cX10_isSetting 73 = .ok (.iconst 1, 1) := by decide +kernel
theorem dX10_isSetting_74 : decode cX10_isSetting 74 = .ok (.sipush 200, 3) := by decide +kernel
theorem dX10_isSetting_77 : decode cX10_isSetting 77 = .ok (.invokestatic 92, 3) := by decide +kernel
theorem dX10_isSetting_80 : decode cX10_isSetting 80 = .ok (.ireturn, 1) := by decide +kernel
theorem dX10_isSetting_81 : decode cX10_isSetting 81 = .ok (.iload_n 1, 1) := by decide +kernel
theorem dX10_isSetting_82 : decode cX10_isSetting 82 = .ok (.iconst 0, 1) := by decide +kernel
theorem dX10_isSetting_83 : decode cX10_isSetting 83 = .ok (.bipush 99, 2) := by decide +kernel
theorem dX10_isSetting_85 : decode cX10_isSetting 85 = .ok (.invokestatic 92, 3) := by decide +kernel
theorem dX10_isSetting_88 : decode cX10_isSetting 88 = .ok (.ireturn, 1) := by decide +kernel
theorem dX10_isSetting_89 : decode cX10_isSetting 89 = .ok (.iconst 0, 1) := by decide +kernel
theorem dX10_isSetting_90 : decode cX10_isSetting 90 = .ok (.ireturn, 1) := by decide +kernel
set_option maxRecDepth 20000 in
theorem ggX10_trucksNeeded_X10_truckOf : GoodIn wsX10_trucksNeeded wsX10_truckOf := goodIn_r _ [6, 1, 7, 8, 9, 10, 11, 12, 13, 14, 15, 16, 17, 18, 19, 20, 21] (by decide +kernel) (by decide +kernel)
set_option maxRecDepth 20000 in
theorem gX10_trucksNeeded_X10_truckOf : GoodIn wsX10_trucksNeeded (wsV RX10 96 RX10 yX10_truckOf wsX10_truckOf) := goodIn_app (goodIn_of _ (by decide +kernel)) ggX10_trucksNeeded_X10_truckOf
theorem dX10_trucksNeeded_0 : decode cX10_trucksNeeded 0 = .ok (.iconst 0, 1) := by decide +kernel
theorem dX10_trucksNeeded_1 : decode cX10_trucksNeeded 1 = .ok (.istore_n 1, 1) := by decide +kernel
theorem dX10_trucksNeeded_2 : decode cX10_trucksNeeded 2 = .ok (.iconst 0, 1) := by decide +kernel
theorem dX10_trucksNeeded_3 : decode cX10_trucksNeeded 3 = .ok (.istore_n 2, 1) := by decide +kernel
theorem dX10_trucksNeeded_4 : decode cX10_trucksNeeded 4 = .ok (.iload_n 2, 1) := by decide +kernel
theorem dX10_trucksNeeded_5 : decode cX10_trucksNeeded 5 = .ok (.aload_n 0, 1) := by decide +kernel
theorem dX10_trucksNeeded_6 : decode cX10_trucksNeeded 6 = .ok (.getfield 7, 3) := by decide +kernel
theorem dX10_trucksNeeded_9 : decode cX10_trucksNeeded 9 = .ok (.iconst 0, 1) := by decide +kernel
theorem dX10_trucksNeeded_10 : decode cX10_trucksNeeded 10 = .ok (.iaload, 1) := by decide +kernel
theorem dX10_trucksNeeded_11 : decode cX10_trucksNeeded 11 = .ok (.if_icmp .ge 26, 3) := by decide +kernel
theorem dX10_trucksNeeded_14 : decode cX10_trucksNeeded 14 = .ok (.aload_n 0, 1) := by decide +kernel
theorem dX10_trucksNeeded_15 : decode cX10_trucksNeeded 15 = .ok (.iload_n 2, 1) := by decide +kernel
theorem dX10_trucksNeeded_16 : decode cX10_trucksNeeded 16 = .ok (.iconst 0, 1) := by decide +kernel
theorem dX10_trucksNeeded_17 : decode cX10_trucksNeeded 17 = .ok (.invokevirtual 96, 3) := by decide +kernel
theorem dX10_trucksNeeded_20 : decode cX10_trucksNeeded 20 = .ok (.ifCond .le 9, 3) := by decide +kernel
theorem dX10_trucksNeeded_23 : decode cX10_trucksNeeded 23 = .ok (.iload_n 2, 1) := by decide +kernel
theorem dX10_trucksNeeded_24 : decode cX10_trucksNeeded 24 = .ok (.iconst 1, 1) := by decide +kernel
theorem dX10_trucksNeeded_25 : decode cX10_trucksNeeded 25 = .ok (.iadd, 1) := by decide +kernel
theorem dX10_trucksNeeded_26 : decode cX10_trucksNeeded 26 = .ok (.goto 4, 3) := by decide +kernel
theorem dX10_trucksNeeded_29 : decode cX10_trucksNeeded 29 = .ok (.iload_n 1, 1) := by decide +kernel
theorem dX10_trucksNeeded_30 : decode cX10_trucksNeeded 30 = .ok (.istore_n 1, 1) := by decide +kernel
theorem dX10_trucksNeeded_31 : decode cX10_trucksNeeded 31 = .ok (.iinc 2 1, 3) := by decide +kernel
theorem dX10_trucksNeeded_34 : decode cX10_trucksNeeded 34 = .ok (.goto (-30), 3) := by decide +kernel
theorem dX10_trucksNeeded_37 : decode cX10_trucksNeeded 37 = .ok (.iload_n 1, 1) := by decide +kernel
theorem dX10_trucksNeeded_38 : decode cX10_trucksNeeded 38 = .ok (.ireturn, 1) := by decide +kernel
set_option maxRecDepth 20000 in
theorem ggX10_refusesSet_X10_isSetting : GoodIn wsX10_refusesSet wsX10_isSetting := goodIn_r _ [4, 5, 6, 3, 7] (by decide +kernel) (by decide +kernel)
set_option maxRecDepth 20000 in
theorem gX10_refusesSet_X10_isSetting : GoodIn wsX10_refusesSet (va_wsS RX10 99 yX10_isSetting wsX10_isSetting) := goodIn_app (goodIn_of _ (by decide +kernel)) ggX10_refusesSet_X10_isSetting
set_option maxRecDepth 20000 in
theorem ggX10_refusesSet_X10_trucksNeeded : GoodIn wsX10_refusesSet wsX10_trucksNeeded := goodIn_r _ [11, 12, 13, 14, 15, 3, 16, 17, 18, 19, 20, 21, 22, 23, 24, 25, 26, 27, 28, 29, 30, 31] (by decide +kernel) (by decide +kernel)
set_option maxRecDepth 20000 in
theorem gX10_refusesSet_X10_trucksNeeded : GoodIn wsX10_refusesSet (wsV RX10 103 RX10 yX10_trucksNeeded wsX10_trucksNeeded) := goodIn_app (goodIn_of _ (by decide +kernel)) ggX10_refusesSet_X10_trucksNeeded
theorem dX10_refusesSet_0 : decode cX10_refusesSet 0 = .ok (.iload_n 1, 1) := by decide +kernel
theorem dX10_refusesSet_1 : decode cX10_refusesSet 1 = .ok (.iload_n 2, 1) := by decide +kernel
theorem dX10_refusesSet_2 : decode cX10_refusesSet 2 = .ok (.invokestatic 99, 3) := by decide +kernel
theorem dX10_refusesSet_5 : decode cX10_refusesSet 5 = .ok (.ifCond .ne 6, 3) := by decide +kernel
theorem dX10_refusesSet_8 : decode cX10_refusesSet 8 = .ok (.bipush (-2), 2) := by decide +kernel
theorem dX10_refusesSet_10 : decode cX10_refusesSet 10 = .ok (.ireturn, 1) := by decide +kernel
theorem dX10_refusesSet_11 : decode cX10_refusesSet 11 = .ok (.iload_n 1, 1) := by decide +kernel
theorem dX10_refusesSet_12 : decode cX10_refusesSet 12 = .ok (.ifCond .ne 16, 3) := by decide +kernel
theorem dX10_refusesSet_15 : decode cX10_refusesSet 15 = .ok (.iload_n 2, 1) := by decide +kernel
theorem dX10_refusesSet_16 : decode cX10_refusesSet 16 = .ok (.aload_n 0, 1) := by decide +kernel
theorem dX10_refusesSet_17 : decode cX10_refusesSet 17 = .ok (.invokevirtual 103, 3) := by decide +kernel
theorem dX10_refusesSet_20 : decode cX10_refusesSet 20 = .ok (.if_icmp .ge 8, 3) := by decide +kernel
theorem dX10_refusesSet_23 : decode cX10_refusesSet 23 = .ok (.bipush (-5), 2) := by decide +kernel
theorem dX10_refusesSet_25 : decode cX10_refusesSet 25 = .ok (.goto 4, 3) := by decide +kernel
theorem dX10_refusesSet_28 : decode cX10_refusesSet 28 = .ok (.iconst 0, 1) := by decide +kernel
theorem dX10_refusesSet_29 : decode cX10_refusesSet 29 = .ok (.ireturn, 1) := by decide +kernel
set_option maxRecDepth 20000 in
theorem ggX10_set_X10_refusesSet : GoodIn wsX10_set wsX10_refusesSet := goodIn_r _ [7, 8, 9, 6, 10, 11, 12, 13, 14, 15, 16, 17, 2, 18, 19, 20, 21, 28, 29, 30, 31, 32, 33, 34, 35, 36, 37, 38, 39, 40, 41, 42] (by decide +kernel) (by decide +kernel)
set_option maxRecDepth 20000 in
theorem gX10_set_X10_refusesSet : GoodIn wsX10_set (wsV RX10 106 RX10 yX10_refusesSet wsX10_refusesSet) := goodIn_app (goodIn_of _ (by decide +kernel)) ggX10_set_X10_refusesSet
set_option maxRecDepth 20000 in
theorem ggX10_set_X10_records : GoodIn wsX10_set wsX10_records := goodIn_r _ [25, 26, 27, 2, 28, 29, 30, 31, 32, 33, 34, 35, 36, 37, 38, 39, 40, 41, 42] (by decide +kernel) (by decide +kernel)
set_option maxRecDepth 20000 in
theorem gX10_set_X10_records : GoodIn wsX10_set (wsV RX10 109 RX10 yX10_records wsX10_records) := goodIn_app (goodIn_of _ (by decide +kernel)) ggX10_set_X10_records
theorem dX10_set_0 : decode cX10_set 0 = .ok (.aload_n 0, 1) := by decide +kernel
theorem dX10_set_1 : decode cX10_set 1 = .ok (.iconst 0, 1) := by decide +kernel
theorem dX10_set_2 : decode cX10_set 2 = .ok (.putfield 32, 3) := by decide +kernel
theorem dX10_set_5 : decode cX10_set 5 = .ok (.aload_n 0, 1) := by decide +kernel
theorem dX10_set_6 : decode cX10_set 6 = .ok (.iload_n 1, 1) := by decide +kernel
theorem dX10_set_7 : decode cX10_set 7 = .ok (.iload_n 2, 1) := by decide +kernel
theorem dX10_set_8 : decode cX10_set 8 = .ok (.invokevirtual 106, 3) := by decide +kernel
theorem dX10_set_11 : decode cX10_set 11 = .ok (.istore_n 3, 1) := by decide +kernel
theorem dX10_set_12 : decode cX10_set 12 = .ok (.iload_n 3, 1) := by decide +kernel
theorem dX10_set_13 : decode cX10_set 13 = .ok (.ifCond .eq 5, 3) := by decide +kernel
theorem dX10_set_16 : decode cX10_set 16 = .ok (.iload_n 3, 1) := by decide +kernel
theorem dX10_set_17 : decode cX10_set 17 = .ok (.ireturn, 1) := by decide +kernel
theorem dX10_set_18 : decode cX10_set 18 = .ok (.aload_n 0, 1) := by decide +kernel
theorem dX10_set_19 : decode cX10_set 19 = .ok (.invokevirtual 109, 3) := by decide +kernel
theorem dX10_set_22 : decode cX10_set 22 = .ok (.aload_n 0, 1) := by decide +kernel
theorem dX10_set_23 : decode cX10_set 23 = .ok (.getfield 7, 3) := by decide +kernel
theorem dX10_set_26 : decode cX10_set 26 = .ok (.iload_n 1, 1) := by decide +kernel
theorem dX10_set_27 : decode cX10_set 27 = .ok (.iaload, 1) := by decide +kernel
theorem dX10_set_28 : decode cX10_set 28 = .ok (.istore 4, 2) := by decide +kernel
theorem dX10_set_30 : decode cX10_set 30 = .ok (.aload_n 0, 1) := by decide +kernel
theorem dX10_set_31 : decode cX10_set 31 = .ok (.getfield 7, 3) := by decide +kernel
theorem dX10_set_34 : decode cX10_set 34 = .ok (.iload_n 1, 1) := by decide +kernel
theorem dX10_set_35 : decode cX10_set 35 = .ok (.iload_n 2, 1) := by decide +kernel
theorem dX10_set_36 : decode cX10_set 36 = .ok (.iastore, 1) := by decide +kernel
theorem dX10_set_37 : decode cX10_set 37 = .ok (.iload 4, 2) := by decide +kernel
theorem dX10_set_39 : decode cX10_set 39 = .ok (.ireturn, 1) := by decide +kernel
set_option maxRecDepth 20000 in
theorem ggX10_refusesFace_X10_in : GoodIn wsX10_refusesFace wsX10_in := goodIn_r _ [5] (by decide +kernel) (by decide +kernel)
set_option maxRecDepth 20000 in
theorem gX10_refusesFace_X10_in : GoodIn wsX10_refusesFace (va_wsS RX10 92 yX10_in wsX10_in) := goodIn_app (goodIn_of _ (by decide +kernel)) ggX10_refusesFace_X10_in
theorem dX10_refusesFace_0 : decode cX10_refusesFace 0 = .ok (.iload_n 1, 1) := by decide +kernel
theorem dX10_refusesFace_1 : decode cX10_refusesFace 1 = .ok (.iconst 1, 1) := by decide +kernel
theorem dX10_refusesFace_2 : decode cX10_refusesFace 2 = .ok (.sipush 9999, 3) := by decide +kernel
theorem dX10_refusesFace_5 : decode cX10_refusesFace 5 = .ok (.invokestatic 92, 3) := by decide +kernel
theorem dX10_refusesFace_8 : decode cX10_refusesFace 8 = .ok (.ifCond .eq 23, 3) := by decide +kernel
theorem dX10_refusesFace_11 : decode cX10_refusesFace 11 = .ok (.iload_n 2, 1) := by decide +kernel
theorem dX10_refusesFace_12 : decode cX10_refusesFace 12 = .ok (.iconst 1, 1) := by decide +kernel
theorem dX10_refusesFace_13 : decode cX10_refusesFace 13 = .ok (.bipush 9, 2) := by decide +kernel
theorem dX10_refusesFace_15 : decode cX10_refusesFace 15 = .ok (.invokestatic 92, 3) := by decide +kernel
theorem dX10_refusesFace_18 : decode cX10_refusesFace 18 = .ok (.ifCond .eq 13, 3) := by decide +kernel
theorem dX10_refusesFace_21 : decode cX10_refusesFace 21 = .ok (.iload_n 3, 1) := by decide +kernel
theorem dX10_refusesFace_22 : decode cX10_refusesFace 22 = .ok (.iconst 1, 1) := by decide +kernel
theorem dX10_refusesFace_23 : decode cX10_refusesFace 23 = .ok (.bipush 12, 2) := by decide +kernel
theorem dX10_refusesFace_25 : decode cX10_refusesFace 25 = .ok (.invokestatic 92, 3) := by decide +kernel
theorem dX10_refusesFace_28 : decode cX10_refusesFace 28 = .ok (.ifCond .ne 6, 3) := by decide +kernel
theorem dX10_refusesFace_31 : decode cX10_refusesFace 31 = .ok (.bipush (-2), 2) := by decide +kernel
theorem dX10_refusesFace_33 : decode cX10_refusesFace 33 = .ok (.ireturn, 1) := by decide +kernel
theorem dX10_refusesFace_34 : decode cX10_refusesFace 34 = .ok (.aload_n 0, 1) := by decide +kernel
theorem dX10_refusesFace_35 : decode cX10_refusesFace 35 = .ok (.getfield 7, 3) := by decide +kernel
theorem dX10_refusesFace_38 : decode cX10_refusesFace 38 = .ok (.bipush 7, 2) := by decide +kernel
theorem dX10_refusesFace_40 : decode cX10_refusesFace 40 = .ok (.iaload, 1) := by decide +kernel
theorem dX10_refusesFace_41 : decode cX10_refusesFace 41 = .ok (.bipush 8, 2) := by decide +kernel
theorem dX10_refusesFace_43 : decode cX10_refusesFace 43 = .ok (.if_icmp .ne 8, 3) := by decide +kernel
theorem dX10_refusesFace_46 : decode cX10_refusesFace 46 = .ok (.bipush (-4), 2) := by decide +kernel
theorem dX10_refusesFace_48 : decode cX10_refusesFace 48 = .ok (.goto 4, 3) := by decide +kernel
theorem dX10_refusesFace_51 : decode cX10_refusesFace 51 = .ok (.iconst 0, 1) := by decide +kernel
theorem dX10_refusesFace_52 : decode cX10_refusesFace 52 = .ok (.ireturn, 1) := by decide +kernel
theorem dX10_laysFace_0 : decode cX10_laysFace 0 = .ok (.bipush 26, 2) := by decide +kernel
theorem dX10_laysFace_2 : decode cX10_laysFace 2 = .ok (.iconst 4, 1) := by decide +kernel
theorem dX10_laysFace_3 : decode cX10_laysFace 3 = .ok (.aload_n 0, 1) := by decide +kernel
theorem dX10_laysFace_4 : decode cX10_laysFace 4 = .ok (.getfield 7, 3) := by decide +kernel
theorem dX10_laysFace_7 : decode cX10_laysFace 7 = .ok (.bipush 7, 2) := by decide +kernel
theorem dX10_laysFace_9 : decode cX10_laysFace 9 = .ok (.iaload, 1) := by decide +kernel
theorem dX10_laysFace_10 : decode cX10_laysFace 10 = .ok (.imul, 1) := by decide +kernel
theorem dX10_laysFace_11 : decode cX10_laysFace 11 = .ok (.iadd, 1) := by decide +kernel
theorem dX10_laysFace_12 : decode cX10_laysFace 12 = .ok (.istore 4, 2) := by decide +kernel
theorem dX10_laysFace_14 : decode cX10_laysFace 14 = .ok (.aload_n 0, 1) := by decide +kernel
theorem dX10_laysFace_15 : decode cX10_laysFace 15 = .ok (.getfield 7, 3) := by decide +kernel
theorem dX10_laysFace_18 : decode cX10_laysFace 18 = .ok (.iload 4, 2) := by decide +kernel
theorem dX10_laysFace_20 : decode cX10_laysFace 20 = .ok (.iconst 0, 1) := by decide +kernel
theorem dX10_laysFace_21 : decode cX10_laysFace 21 = .ok (.iadd, 1) := by decide +kernel
theorem dX10_laysFace_22 : decode cX10_laysFace 22 = .ok (.iload_n 1, 1) := by decide +kernel
theorem dX10_laysFace_23 : decode cX10_laysFace 23 = .ok (.iastore, 1) := by decide +kernel
theorem dX10_laysFace_24 : decode cX10_laysFace 24 = .ok (.aload_n 0, 1) := by decide +kernel
theorem dX10_laysFace_25 : decode cX10_laysFace 25 = .ok (.getfield 7, 3) := by decide +kernel
theorem dX10_laysFace_28 : decode cX10_laysFace 28 = .ok (.iload 4, 2) := by decide +kernel
theorem dX10_laysFace_30 : decode cX10_laysFace 30 = .ok (.iconst 1, 1) := by decide +kernel
theorem dX10_laysFace_31 : decode cX10_laysFace 31 = .ok (.iadd, 1) := by decide +kernel
theorem dX10_laysFace_32 : decode cX10_laysFace 32 = .ok (.iload_n 2, 1) := by decide +kernel
theorem dX10_laysFace_33 : decode cX10_laysFace 33 = .ok (.iastore, 1) := by decide +kernel
theorem dX10_laysFace_34 : decode cX10_laysFace 34 = .ok (.aload_n 0, 1) := by decide +kernel
theorem dX10_laysFace_35 : decode cX10_laysFace 35 = .ok (.getfield 7, 3) := by decide +kernel
theorem dX10_laysFace_38 : decode cX10_laysFace 38 = .ok (.iload 4, 2) := by decide +kernel
theorem dX10_laysFace_40 : decode cX10_laysFace 40 = .ok (.iconst 2, 1) := by decide +kernel
theorem dX10_laysFace_41 : decode cX10_laysFace 41 = .ok (.iadd, 1) := by decide +kernel
theorem dX10_laysFace_42 : decode cX10_laysFace 42 = .ok (.iload_n 3, 1) := by decide +kernel
theorem dX10_laysFace_43 : decode cX10_laysFace 43 = .ok (.iastore, 1) := by decide +kernel
theorem dX10_laysFace_44 : decode cX10_laysFace 44 = .ok (.aload_n 0, 1) := by decide +kernel
theorem dX10_laysFace_45 : decode cX10_laysFace 45 = .ok (.getfield 7, 3) := by decide +kernel
theorem dX10_laysFace_48 : decode cX10_laysFace 48 = .ok (.iload 4, 2) := by decide +kernel
theorem dX10_laysFace_50 : decode cX10_laysFace 50 = .ok (.iconst 3, 1) := by decide +kernel
theorem dX10_laysFace_51 : decode cX10_laysFace 51 = .ok (.iadd, 1) := by decide +kernel
theorem dX10_laysFace_52 : decode cX10_laysFace 52 = .ok (.iconst 0, 1) := by decide +kernel
theorem dX10_laysFace_53 : decode cX10_laysFace 53 = .ok (.iastore, 1) := by decide +kernel
theorem dX10_laysFace_54 : decode cX10_laysFace 54 = .ok (.aload_n 0, 1) := by decide +kernel
theorem dX10_laysFace_55 : decode cX10_laysFace 55 = .ok (.getfield 7, 3) := by decide +kernel
theorem dX10_laysFace_58 : decode cX10_laysFace 58 = .ok (.bipush 7, 2) := by decide +kernel
theorem dX10_laysFace_60 : decode cX10_laysFace 60 = .ok (.dup2, 1) := by decide +kernel
theorem dX10_laysFace_61 : decode cX10_laysFace 61 = .ok (.iaload, 1) := by decide +kernel
theorem dX10_laysFace_62 : decode cX10_laysFace 62 = .ok (.iconst 1, 1) := by decide +kernel
theorem dX10_laysFace_63 : decode cX10_laysFace 63 = .ok (.iadd, 1) := by decide +kernel
theorem dX10_laysFace_64 : decode cX10_laysFace 64 = .ok (.iastore, 1) := by decide +kernel
theorem dX10_laysFace_65 : decode cX10_laysFace 65 = .ok (.aload_n 0, 1) := by decide +kernel
theorem dX10_laysFace_66 : decode cX10_laysFace 66 = .ok (.getfield 7, 3) := by decide +kernel
theorem dX10_laysFace_69 : decode cX10_laysFace 69 = .ok (.bipush 7, 2) := by decide +kernel
theorem dX10_laysFace_71 : decode cX10_laysFace 71 = .ok (.iaload, 1) := by decide +kernel
theorem dX10_laysFace_72 : decode cX10_laysFace 72 = .ok (.iconst 1, 1) := by decide +kernel
theorem dX10_laysFace_73 : decode cX10_laysFace 73 = .ok (.isub, 1) := by decide +kernel
theorem dX10_laysFace_74 : decode cX10_laysFace 74 = .ok (.ireturn, 1) := by decide +kernel
set_option maxRecDepth 20000 in
theorem ggX10_face_X10_refusesFace : GoodIn wsX10_face wsX10_refusesFace := goodIn_r _ [6, 7, 8, 9, 5, 10, 21, 22, 23, 24, 25, 26, 27, 28, 29, 30, 31, 32, 33, 34, 35] (by decide +kernel) (by decide +kernel)
set_option maxRecDepth 20000 in
theorem gX10_face_X10_refusesFace : GoodIn wsX10_face (wsV RX10 112 RX10 yX10_refusesFace wsX10_refusesFace) := goodIn_app (goodIn_of _ (by decide +kernel)) ggX10_face_X10_refusesFace
set_option maxRecDepth 20000 in
theorem ggX10_face_X10_records : GoodIn wsX10_face wsX10_records := goodIn_r _ [14, 15, 16, 7, 21, 22, 23, 24, 25, 26, 27, 28, 29, 30, 31, 32, 33, 34, 35] (by decide +kernel) (by decide +kernel)
set_option maxRecDepth 20000 in
theorem gX10_face_X10_records : GoodIn wsX10_face (wsV RX10 109 RX10 yX10_records wsX10_records) := goodIn_app (goodIn_of _ (by decide +kernel)) ggX10_face_X10_records
set_option maxRecDepth 20000 in
theorem ggX10_face_X10_laysFace : GoodIn wsX10_face wsX10_laysFace := goodIn_r _ [20, 7, 21, 22, 23, 24, 25, 26, 27, 28, 29, 30, 31, 32, 33, 34, 35] (by decide +kernel) (by decide +kernel)
set_option maxRecDepth 20000 in
theorem gX10_face_X10_laysFace : GoodIn wsX10_face (wsV RX10 116 RX10 yX10_laysFace wsX10_laysFace) := goodIn_app (goodIn_of _ (by decide +kernel)) ggX10_face_X10_laysFace
theorem dX10_face_0 : decode cX10_face 0 = .ok (.aload_n 0, 1) := by decide +kernel
theorem dX10_face_1 : decode cX10_face 1 = .ok (.iconst 0, 1) := by decide +kernel
theorem dX10_face_2 : decode cX10_face 2 = .ok (.putfield 32, 3) := by decide +kernel
theorem dX10_face_5 : decode cX10_face 5 = .ok (.aload_n 0, 1) := by decide +kernel
theorem dX10_face_6 : decode cX10_face 6 = .ok (.iload_n 1, 1) := by decide +kernel
theorem dX10_face_7 : decode cX10_face 7 = .ok (.iload_n 2, 1) := by decide +kernel
theorem dX10_face_8 : decode cX10_face 8 = .ok (.iload_n 3, 1) := by decide +kernel
theorem dX10_face_9 : decode cX10_face 9 = .ok (.invokevirtual 112, 3) := by decide +kernel
theorem dX10_face_12 : decode cX10_face 12 = .ok (.istore 4, 2) := by decide +kernel
theorem dX10_face_14 : decode cX10_face 14 = .ok (.iload 4, 2) := by decide +kernel
theorem dX10_face_16 : decode cX10_face 16 = .ok (.ifCond .eq 6, 3) := by decide +kernel
theorem dX10_face_19 : decode cX10_face 19 = .ok (.iload 4, 2) := by decide +kernel
theorem dX10_face_21 : decode cX10_face 21 = .ok (.ireturn, 1) := by decide +kernel
theorem dX10_face_22 : decode cX10_face 22 = .ok (.aload_n 0, 1) := by decide +kernel
theorem dX10_face_23 : decode cX10_face 23 = .ok (.invokevirtual 109, 3) := by decide +kernel
theorem dX10_face_26 : decode cX10_face 26 = .ok (.aload_n 0, 1) := by decide +kernel
theorem dX10_face_27 : decode cX10_face 27 = .ok (.iload_n 1, 1) := by decide +kernel
theorem dX10_face_28 : decode cX10_face 28 = .ok (.iload_n 2, 1) := by decide +kernel
theorem dX10_face_29 : decode cX10_face 29 = .ok (.iload_n 3, 1) := by decide +kernel
theorem dX10_face_30 : decode cX10_face 30 = .ok (.invokevirtual 116, 3) := by decide +kernel
theorem dX10_face_33 : decode cX10_face 33 = .ok (.ireturn, 1) := by decide +kernel
set_option maxRecDepth 20000 in
theorem ggX10_refusesContract_X10_in : GoodIn wsX10_refusesContract wsX10_in := goodIn_r _ [5] (by decide +kernel) (by decide +kernel)
set_option maxRecDepth 20000 in
theorem gX10_refusesContract_X10_in : GoodIn wsX10_refusesContract (va_wsS RX10 92 yX10_in wsX10_in) := goodIn_app (goodIn_of _ (by decide +kernel)) ggX10_refusesContract_X10_in
theorem dX10_refusesContract_0 : decode cX10_refusesContract 0 = .ok (.iload_n 2, 1) := by decide +kernel
theorem dX10_refusesContract_1 : decode cX10_refusesContract 1 = .ok (.iconst 0, 1) := by decide +kernel
theorem dX10_refusesContract_2 : decode cX10_refusesContract 2 = .ok (.bipush 100, 2) := by decide +kernel
theorem dX10_refusesContract_4 : decode cX10_refusesContract 4 = .ok (.invokestatic 92, 3) := by decide +kernel
theorem dX10_refusesContract_7 : decode cX10_refusesContract 7 = .ok (.ifCond .eq 40, 3) := by decide +kernel
theorem dX10_refusesContract_10 : decode cX10_refusesContract 10 = .ok (.iload_n 3, 1) := by decide +kernel
theorem dX10_refusesContract_11 : decode cX10_refusesContract 11 = .ok (.iload_n 2, 1) := by decide +kernel
theorem dX10_refusesContract_12 : decode cX10_refusesContract 12 = .ok (.bipush 100, 2) := by decide +kernel
theorem dX10_refusesContract_14 : decode cX10_refusesContract 14 = .ok (.invokestatic 92, 3) := by decide +kernel
theorem dX10_refusesContract_17 : decode cX10_refusesContract 17 = .ok (.ifCond .eq 30, 3) := by decide +kernel
theorem dX10_refusesContract_20 : decode cX10_refusesContract 20 = .ok (.iload 4, 2) := by decide +kernel
theorem dX10_refusesContract_22 : decode cX10_refusesContract 22 = .ok (.iconst 0, 1) := by decide +kernel
theorem dX10_refusesContract_23 : decode cX10_refusesContract 23 = .ok (.bipush 100, 2) := by decide +kernel
theorem dX10_refusesContract_25 : decode cX10_refusesContract 25 = .ok (.invokestatic 92, 3) := by decide +kernel
theorem dX10_refusesContract_28 : decode cX10_refusesContract 28 = .ok (.ifCond .eq 19, 3) := by decide +kernel
theorem dX10_refusesContract_31 : decode cX10_refusesContract 31 = .ok (.iload 5, 2) := by decide +kernel
theorem dX10_refusesContract_33 : decode cX10_refusesContract 33 = .ok (.iload 4, 2) := by decide +kernel
theorem dX10_refusesContract_35 : decode cX10_refusesContract 35 = .ok (.bipush 100, 2) := by decide +kernel
theorem dX10_refusesContract_37 : decode cX10_refusesContract 37 = .ok (.invokestatic 92, 3) := by decide +kernel
theorem dX10_refusesContract_40 : decode cX10_refusesContract 40 = .ok (.ifCond .eq 7, 3) := by decide +kernel
theorem dX10_refusesContract_43 : decode cX10_refusesContract 43 = .ok (.iconst 1, 1) := by decide +kernel
theorem dX10_refusesContract_44 : decode cX10_refusesContract 44 = .ok (.goto 4, 3) := by decide +kernel
theorem dX10_refusesContract_47 : decode cX10_refusesContract 47 = .ok (.iconst 0, 1) := by decide +kernel
theorem dX10_refusesContract_48 : decode cX10_refusesContract 48 = .ok (.istore 7, 2) := by decide +kernel
theorem dX10_refusesContract_50 : decode cX10_refusesContract 50 = .ok (.iload 7, 2) := by decide +kernel
theorem dX10_refusesContract_52 : decode cX10_refusesContract 52 = .ok (.ifCond .eq 25, 3) := by decide +kernel
theorem dX10_refusesContract_55 : decode cX10_refusesContract 55 = .ok (.iload_n 1, 1) := by decide +kernel
theorem dX10_refusesContract_56 : decode cX10_refusesContract 56 = .ok (.iconst 1, 1) := by decide +kernel
theorem dX10_refusesContract_57 : decode cX10_refusesContract 57 = .ok (.sipush 500, 3) := by decide +kernel
theorem dX10_refusesContract_60 : decode cX10_refusesContract 60 = .ok (.invokestatic 92, 3) := by decide +kernel
theorem dX10_refusesContract_63 : decode cX10_refusesContract 63 = .ok (.ifCond .eq 14, 3) := by decide +kernel
theorem dX10_refusesContract_66 : decode cX10_refusesContract 66 = .ok (.iload 6, 2) := by decide +kernel
theorem dX10_refusesContract_68 : decode cX10_refusesContract 68 = .ok (.iconst 0, 1) := by decide +kernel
theorem dX10_refusesContract_69 : decode cX10_refusesContract 69 = .ok (.bipush 99, 2) := by decide +kernel
theorem dX10_refusesContract_71 : decode cX10_refusesContract 71 = .ok (.invokestatic 92, 3) := by decide +kernel
theorem dX10_refusesContract_74 : decode cX10_refusesContract 74 = .ok (.ifCond .ne 6, 3) := by decide +kernel
theorem dX10_refusesContract_77 : decode cX10_refusesContract 77 = .ok (.bipush (-2), 2) := by decide +kernel
theorem dX10_refusesContract_79 : decode cX10_refusesContract 79 = .ok (.ireturn, 1) := by decide +kernel
theorem dX10_refusesContract_80 : decode cX10_refusesContract 80 = .ok (.aload_n 0, 1) := by decide +kernel
theorem dX10_refusesContract_81 : decode cX10_refusesContract 81 = .ok (.getfield 7, 3) := by decide +kernel
theorem dX10_refusesContract_84 : decode cX10_refusesContract 84 = .ok (.bipush 8, 2) := by decide +kernel
theorem dX10_refusesContract_86 : decode cX10_refusesContract 86 = .ok (.iaload, 1) := by decide +kernel
theorem dX10_refusesContract_87 : decode cX10_refusesContract 87 = .ok (.bipush 12, 2) := by decide +kernel
theorem dX10_refusesContract_89 : decode cX10_refusesContract 89 = .ok (.if_icmp .ne 8, 3) := by decide +kernel
theorem dX10_refusesContract_92 : decode cX10_refusesContract 92 = .ok (.bipush (-4), 2) := by decide +kernel
theorem dX10_refusesContract_94 : decode cX10_refusesContract 94 = .ok (.goto 4, 3) := by decide +kernel
theorem dX10_refusesContract_97 : decode cX10_refusesContract 97 = .ok (.iconst 0, 1) := by decide +kernel
theorem dX10_refusesContract_98 : decode cX10_refusesContract 98 = .ok (.ireturn, 1) := by decide +kernel
theorem dX10_laysContract_0 : decode cX10_laysContract 0 = .ok (.sipush 138, 3) := by decide +kernel
theorem dX10_laysContract_3 : decode cX10_laysContract 3 = .ok (.bipush 6, 2) := by decide +kernel
theorem dX10_laysContract_5 : decode cX10_laysContract 5 = .ok (.aload_n 0, 1) := by decide +kernel
theorem dX10_laysContract_6 : decode cX10_laysContract 6 = .ok (.getfield 7, 3) := by decide +kernel
theorem dX10_laysContract_9 : decode cX10_laysContract 9 = .ok (.bipush 8, 2) := by decide +kernel
theorem dX10_laysContract_11 : decode cX10_laysContract 11 = .ok (.iaload, 1) := by decide +kernel
theorem dX10_laysContract_12 : decode cX10_laysContract 12 = .ok (.imul, 1) := by decide +kernel
theorem dX10_laysContract_13 : decode cX10_laysContract 13 = .ok (.iadd, 1) := by decide +kernel
theorem dX10_laysContract_14 : decode cX10_laysContract 14 = .ok (.istore 7, 2) := by decide +kernel
theorem dX10_laysContract_16 : decode cX10_laysContract 16 = .ok (.aload_n 0, 1) := by decide +kernel
theorem dX10_laysContract_17 : decode cX10_laysContract 17 = .ok (.getfield 7, 3) := by decide +kernel
theorem dX10_laysContract_20 : decode cX10_laysContract 20 = .ok (.iload 7, 2) := by decide +kernel
theorem dX10_laysContract_22 : decode cX10_laysContract 22 = .ok (.iconst 0, 1) := by decide +kernel
theorem dX10_laysContract_23 : decode cX10_laysContract 23 = .ok (.iadd, 1) := by decide +kernel
theorem dX10_laysContract_24 : decode cX10_laysContract 24 = .ok (.iload_n 1, 1) := by decide +kernel
theorem dX10_laysContract_25 : decode cX10_laysContract 25 = .ok (.iastore, 1) := by decide +kernel
theorem dX10_laysContract_26 : decode cX10_laysContract 26 = .ok (.aload_n 0, 1) := by decide +kernel
theorem dX10_laysContract_27 : decode cX10_laysContract 27 = .ok (.getfield 7, 3) := by decide +kernel
theorem dX10_laysContract_30 : decode cX10_laysContract 30 = .ok (.iload 7, 2) := by decide +kernel
theorem dX10_laysContract_32 : decode cX10_laysContract 32 = .ok (.iconst 1, 1) := by decide +kernel
theorem dX10_laysContract_33 : decode cX10_laysContract 33 = .ok (.iadd, 1) := by decide +kernel
theorem dX10_laysContract_34 : decode cX10_laysContract 34 = .ok (.iload_n 2, 1) := by decide +kernel
theorem dX10_laysContract_35 : decode cX10_laysContract 35 = .ok (.iastore, 1) := by decide +kernel
theorem dX10_laysContract_36 : decode cX10_laysContract 36 = .ok (.aload_n 0, 1) := by decide +kernel
theorem dX10_laysContract_37 : decode cX10_laysContract 37 = .ok (.getfield 7, 3) := by decide +kernel
theorem dX10_laysContract_40 : decode cX10_laysContract 40 = .ok (.iload 7, 2) := by decide +kernel
theorem dX10_laysContract_42 : decode cX10_laysContract 42 = .ok (.iconst 2, 1) := by decide +kernel
theorem dX10_laysContract_43 : decode cX10_laysContract 43 = .ok (.iadd, 1) := by decide +kernel
theorem dX10_laysContract_44 : decode cX10_laysContract 44 = .ok (.iload_n 3, 1) := by decide +kernel
theorem dX10_laysContract_45 : decode cX10_laysContract 45 = .ok (.iastore, 1) := by decide +kernel
theorem dX10_laysContract_46 : decode cX10_laysContract 46 = .ok (.aload_n 0, 1) := by decide +kernel
theorem dX10_laysContract_47 : decode cX10_laysContract 47 = .ok (.getfield 7, 3) := by decide +kernel
theorem dX10_laysContract_50 : decode cX10_laysContract 50 = .ok (.iload 7, 2) := by decide +kernel
theorem dX10_laysContract_52 : decode cX10_laysContract 52 = .ok (.iconst 3, 1) := by decide +kernel
theorem dX10_laysContract_53 : decode cX10_laysContract 53 = .ok (.iadd, 1) := by decide +kernel
theorem dX10_laysContract_54 : decode cX10_laysContract 54 = .ok (.iload 4, 2) := by decide +kernel
theorem dX10_laysContract_56 : decode cX10_laysContract 56 = .ok (.iastore, 1) := by decide +kernel
theorem dX10_laysContract_57 : decode cX10_laysContract 57 = .ok (.aload_n 0, 1) := by decide +kernel
theorem dX10_laysContract_58 : decode cX10_laysContract 58 = .ok (.getfield 7, 3) := by decide +kernel
theorem dX10_laysContract_61 : decode cX10_laysContract 61 = .ok (.iload 7, 2) := by decide +kernel
theorem dX10_laysContract_63 : decode cX10_laysContract 63 = .ok (.iconst 4, 1) := by decide +kernel
theorem dX10_laysContract_64 : decode cX10_laysContract 64 = .ok (.iadd, 1) := by decide +kernel
theorem dX10_laysContract_65 : decode cX10_laysContract 65 = .ok (.iload 5, 2) := by decide +kernel
theorem dX10_laysContract_67 : decode cX10_laysContract 67 = .ok (.iastore, 1) := by decide +kernel
theorem dX10_laysContract_68 : decode cX10_laysContract 68 = .ok (.aload_n 0, 1) := by decide +kernel
theorem dX10_laysContract_69 : decode cX10_laysContract 69 = .ok (.getfield 7, 3) := by decide +kernel
theorem dX10_laysContract_72 : decode cX10_laysContract 72 = .ok (.iload 7, 2) := by decide +kernel
theorem dX10_laysContract_74 : decode cX10_laysContract 74 = .ok (.iconst 5, 1) := by decide +kernel
theorem dX10_laysContract_75 : decode cX10_laysContract 75 = .ok (.iadd, 1) := by decide +kernel
theorem dX10_laysContract_76 : decode cX10_laysContract 76 = .ok (.iload 6, 2) := by decide +kernel
theorem dX10_laysContract_78 : decode cX10_laysContract 78 = .ok (.iastore, 1) := by decide +kernel
theorem dX10_laysContract_79 : decode cX10_laysContract 79 = .ok (.aload_n 0, 1) := by decide +kernel
theorem dX10_laysContract_80 : decode cX10_laysContract 80 = .ok (.getfield 7, 3) := by decide +kernel
theorem dX10_laysContract_83 : decode cX10_laysContract 83 = .ok (.bipush 8, 2) := by decide +kernel
theorem dX10_laysContract_85 : decode cX10_laysContract 85 = .ok (.dup2, 1) := by decide +kernel
theorem dX10_laysContract_86 : decode cX10_laysContract 86 = .ok (.iaload, 1) := by decide +kernel
theorem dX10_laysContract_87 : decode cX10_laysContract 87 = .ok (.iconst 1, 1) := by decide +kernel
theorem dX10_laysContract_88 : decode cX10_laysContract 88 = .ok (.iadd, 1) := by decide +kernel
theorem dX10_laysContract_89 : decode cX10_laysContract 89 = .ok (.iastore, 1) := by decide +kernel
theorem dX10_laysContract_90 : decode cX10_laysContract 90 = .ok (.aload_n 0, 1) := by decide +kernel
theorem dX10_laysContract_91 : decode cX10_laysContract 91 = .ok (.getfield 7, 3) := by decide +kernel
theorem dX10_laysContract_94 : decode cX10_laysContract 94 = .ok (.bipush 8, 2) := by decide +kernel
theorem dX10_laysContract_96 : decode cX10_laysContract 96 = .ok (.iaload, 1) := by decide +kernel
theorem dX10_laysContract_97 : decode cX10_laysContract 97 = .ok (.iconst 1, 1) := by decide +kernel
theorem dX10_laysContract_98 : decode cX10_laysContract 98 = .ok (.isub, 1) := by decide +kernel
theorem dX10_laysContract_99 : decode cX10_laysContract 99 = .ok (.ireturn, 1) := by decide +kernel
set_option maxRecDepth 20000 in
theorem ggX10_contract_X10_refusesContract : GoodIn wsX10_contract wsX10_refusesContract := goodIn_r _ [6, 7, 8, 9, 5, 10, 21, 22, 23, 24, 25, 26, 27, 28, 29, 30, 31, 32, 33, 34, 35] (by decide +kernel) (by decide +kernel)
set_option maxRecDepth 20000 in
theorem gX10_contract_X10_refusesContract : GoodIn wsX10_contract (wsV RX10 119 RX10 yX10_refusesContract wsX10_refusesContract) := goodIn_app (goodIn_of _ (by decide +kernel)) ggX10_contract_X10_refusesContract
set_option maxRecDepth 20000 in
theorem ggX10_contract_X10_records : GoodIn wsX10_contract wsX10_records := goodIn_r _ [14, 15, 16, 7, 21, 22, 23, 24, 25, 26, 27, 28, 29, 30, 31, 32, 33, 34, 35] (by decide +kernel) (by decide +kernel)
set_option maxRecDepth 20000 in
theorem gX10_contract_X10_records : GoodIn wsX10_contract (wsV RX10 109 RX10 yX10_records wsX10_records) := goodIn_app (goodIn_of _ (by decide +kernel)) ggX10_contract_X10_records
set_option maxRecDepth 20000 in
theorem ggX10_contract_X10_laysContract : GoodIn wsX10_contract wsX10_laysContract := goodIn_r _ [20, 7, 21, 22, 23, 24, 25, 26, 27, 28, 29, 30, 31, 32, 33, 34, 35] (by decide +kernel) (by decide +kernel)
set_option maxRecDepth 20000 in
theorem gX10_contract_X10_laysContract : GoodIn wsX10_contract (wsV RX10 123 RX10 yX10_laysContract wsX10_laysContract) := goodIn_app (goodIn_of _ (by decide +kernel)) ggX10_contract_X10_laysContract
theorem dX10_contract_0 : decode cX10_contract 0 = .ok (.aload_n 0, 1) := by decide +kernel
theorem dX10_contract_1 : decode cX10_contract 1 = .ok (.iconst 0, 1) := by decide +kernel
theorem dX10_contract_2 : decode cX10_contract 2 = .ok (.putfield 32, 3) := by decide +kernel
theorem dX10_contract_5 : decode cX10_contract 5 = .ok (.aload_n 0, 1) := by decide +kernel
theorem dX10_contract_6 : decode cX10_contract 6 = .ok (.iload_n 1, 1) := by decide +kernel
theorem dX10_contract_7 : decode cX10_contract 7 = .ok (.iload_n 2, 1) := by decide +kernel
theorem dX10_contract_8 : decode cX10_contract 8 = .ok (.iload_n 3, 1) := by decide +kernel
theorem dX10_contract_9 : decode cX10_contract 9 = .ok (.iload 4, 2) := by decide +kernel
theorem dX10_contract_11 : decode cX10_contract 11 = .ok (.iload 5, 2) := by decide +kernel
theorem dX10_contract_13 : decode cX10_contract 13 = .ok (.iload 6, 2) := by decide +kernel
theorem dX10_contract_15 : decode cX10_contract 15 = .ok (.invokevirtual 119, 3) := by decide +kernel
theorem dX10_contract_18 : decode cX10_contract 18 = .ok (.istore 7, 2) := by decide +kernel
theorem dX10_contract_20 : decode cX10_contract 20 = .ok (.iload 7, 2) := by decide +kernel
theorem dX10_contract_22 : decode cX10_contract 22 = .ok (.ifCond .eq 6, 3) := by decide +kernel
theorem dX10_contract_25 : decode cX10_contract 25 = .ok (.iload 7, 2) := by decide +kernel
theorem dX10_contract_27 : decode cX10_contract 27 = .ok (.ireturn, 1) := by decide +kernel
theorem dX10_contract_28 : decode cX10_contract 28 = .ok (.aload_n 0, 1) := by decide +kernel
theorem dX10_contract_29 : decode cX10_contract 29 = .ok (.invokevirtual 109, 3) := by decide +kernel
theorem dX10_contract_32 : decode cX10_contract 32 = .ok (.aload_n 0, 1) := by decide +kernel
theorem dX10_contract_33 : decode cX10_contract 33 = .ok (.iload_n 1, 1) := by decide +kernel
theorem dX10_contract_34 : decode cX10_contract 34 = .ok (.iload_n 2, 1) := by decide +kernel
theorem dX10_contract_35 : decode cX10_contract 35 = .ok (.iload_n 3, 1) := by decide +kernel
theorem dX10_contract_36 : decode cX10_contract 36 = .ok (.iload 4, 2) := by decide +kernel
theorem dX10_contract_38 : decode cX10_contract 38 = .ok (.iload 5, 2) := by decide +kernel
theorem dX10_contract_40 : decode cX10_contract 40 = .ok (.iload 6, 2) := by decide +kernel
theorem dX10_contract_42 : decode cX10_contract 42 = .ok (.invokevirtual 123, 3) := by decide +kernel
theorem dX10_contract_45 : decode cX10_contract 45 = .ok (.ireturn, 1) := by decide +kernel
set_option maxRecDepth 20000 in
theorem ggX10_isContract_X10_in : GoodIn wsX10_isContract wsX10_in := goodIn_r _ [5] (by decide +kernel) (by decide +kernel)
set_option maxRecDepth 20000 in
theorem gX10_isContract_X10_in : GoodIn wsX10_isContract (va_wsS RX10 92 yX10_in wsX10_in) := goodIn_app (goodIn_of _ (by decide +kernel)) ggX10_isContract_X10_in
theorem dX10_isContract_0 : decode cX10_isContract 0 = .ok (.iload_n 1, 1) := by decide +kernel
theorem dX10_isContract_1 : decode cX10_isContract 1 = .ok (.iconst 0, 1) := by decide +kernel
theorem dX10_isContract_2 : decode cX10_isContract 2 = .ok (.aload_n 0, 1) := by decide +kernel
theorem dX10_isContract_3 : decode cX10_isContract 3 = .ok (.getfield 7, 3) := by decide +kernel
theorem dX10_isContract_6 : decode cX10_isContract 6 = .ok (.bipush 8, 2) := by decide +kernel
theorem dX10_isContract_8 : decode cX10_isContract 8 = .ok (.iaload, 1) := by decide +kernel
theorem dX10_isContract_9 : decode cX10_isContract 9 = .ok (.iconst 1, 1) := by decide +kernel
theorem dX10_isContract_10 : decode cX10_isContract 10 = .ok (.isub, 1) := by decide +kernel
theorem dX10_isContract_11 : decode cX10_isContract 11 = .ok (.invokestatic 92, 3) := by decide +kernel
theorem dX10_isContract_14 : decode cX10_isContract 14 = .ok (.ireturn, 1) := by decide +kernel
set_option maxRecDepth 20000 in
theorem ggX10_drop_X10_isContract : GoodIn wsX10_drop wsX10_isContract := goodIn_r _ [7, 2, 8, 9, 6, 10, 21, 22, 23, 24, 25, 26, 27, 28, 29, 30, 31, 32, 33, 34, 35] (by decide +kernel) (by decide +kernel)
set_option maxRecDepth 20000 in
theorem gX10_drop_X10_isContract : GoodIn wsX10_drop (wsV RX10 126 RX10 yX10_isContract wsX10_isContract) := goodIn_app (goodIn_of _ (by decide +kernel)) ggX10_drop_X10_isContract
set_option maxRecDepth 20000 in
theorem ggX10_drop_X10_records : GoodIn wsX10_drop wsX10_records := goodIn_r _ [14, 15, 16, 2, 21, 22, 23, 24, 25, 26, 27, 28, 29, 30, 31, 32, 33, 34, 35] (by decide +kernel) (by decide +kernel)
set_option maxRecDepth 20000 in
theorem gX10_drop_X10_records : GoodIn wsX10_drop (wsV RX10 109 RX10 yX10_records wsX10_records) := goodIn_app (goodIn_of _ (by decide +kernel)) ggX10_drop_X10_records
set_option maxRecDepth 20000 in
theorem ggX10_drop_X10_dropsContract : GoodIn wsX10_drop wsX10_dropsContract := goodIn_r _ [20, 2, 21, 22, 23, 24, 25, 26, 27, 28, 29, 30, 31, 32, 33, 34, 35] (by decide +kernel) (by decide +kernel)
set_option maxRecDepth 20000 in
theorem gX10_drop_X10_dropsContract : GoodIn wsX10_drop (wsV RX10 59 RX10 yX10_dropsContract wsX10_dropsContract) := goodIn_app (goodIn_of _ (by decide +kernel)) ggX10_drop_X10_dropsContract
theorem dX10_drop_0 : decode cX10_drop 0 = .ok (.aload_n 0, 1) := by decide +kernel
theorem dX10_drop_1 : decode cX10_drop 1 = .ok (.iconst 0, 1) := by decide +kernel
theorem dX10_drop_2 : decode cX10_drop 2 = .ok (.putfield 32, 3) := by decide +kernel
theorem dX10_drop_5 : decode cX10_drop 5 = .ok (.aload_n 0, 1) := by decide +kernel
theorem dX10_drop_6 : decode cX10_drop 6 = .ok (.iload_n 1, 1) := by decide +kernel
theorem dX10_drop_7 : decode cX10_drop 7 = .ok (.invokevirtual 126, 3) := by decide +kernel
theorem dX10_drop_10 : decode cX10_drop 10 = .ok (.ifCond .ne 5, 3) := by decide +kernel
theorem dX10_drop_13 : decode cX10_drop 13 = .ok (.iconst (-1), 1) := by decide +kernel
theorem dX10_drop_14 : decode cX10_drop 14 = .ok (.ireturn, 1) := by decide +kernel
theorem dX10_drop_15 : decode cX10_drop 15 = .ok (.aload_n 0, 1) := by decide +kernel
theorem dX10_drop_16 : decode cX10_drop 16 = .ok (.invokevirtual 109, 3) := by decide +kernel
theorem dX10_drop_19 : decode cX10_drop 19 = .ok (.aload_n 0, 1) := by decide +kernel
theorem dX10_drop_20 : decode cX10_drop 20 = .ok (.iload_n 1, 1) := by decide +kernel
theorem dX10_drop_21 : decode cX10_drop 21 = .ok (.invokevirtual 59, 3) := by decide +kernel
theorem dX10_drop_24 : decode cX10_drop 24 = .ok (.aload_n 0, 1) := by decide +kernel
theorem dX10_drop_25 : decode cX10_drop 25 = .ok (.getfield 7, 3) := by decide +kernel
theorem dX10_drop_28 : decode cX10_drop 28 = .ok (.bipush 8, 2) := by decide +kernel
theorem dX10_drop_30 : decode cX10_drop 30 = .ok (.iaload, 1) := by decide +kernel
theorem dX10_drop_31 : decode cX10_drop 31 = .ok (.ireturn, 1) := by decide +kernel
set_option maxRecDepth 20000 in
theorem ggX10_mend_X10_records : GoodIn wsX10_mend wsX10_records := goodIn_r _ [7, 8, 9, 2, 10, 11, 12, 13, 14, 15, 16, 17, 18, 19, 20, 21, 22, 23, 24] (by decide +kernel) (by decide +kernel)
set_option maxRecDepth 20000 in
theorem gX10_mend_X10_records : GoodIn wsX10_mend (wsV RX10 109 RX10 yX10_records wsX10_records) := goodIn_app (goodIn_of _ (by decide +kernel)) ggX10_mend_X10_records
theorem dX10_mend_0 : decode cX10_mend 0 = .ok (.aload_n 0, 1) := by decide +kernel
theorem dX10_mend_1 : decode cX10_mend 1 = .ok (.iconst 0, 1) := by decide +kernel
theorem dX10_mend_2 : decode cX10_mend 2 = .ok (.putfield 32, 3) := by decide +kernel
theorem dX10_mend_5 : decode cX10_mend 5 = .ok (.aload_n 0, 1) := by decide +kernel
theorem dX10_mend_6 : decode cX10_mend 6 = .ok (.invokevirtual 109, 3) := by decide +kernel
theorem dX10_mend_9 : decode cX10_mend 9 = .ok (.aload_n 0, 1) := by decide +kernel
theorem dX10_mend_10 : decode cX10_mend 10 = .ok (.getfield 7, 3) := by decide +kernel
theorem dX10_mend_13 : decode cX10_mend 13 = .ok (.bipush 10, 2) := by decide +kernel
theorem dX10_mend_15 : decode cX10_mend 15 = .ok (.iaload, 1) := by decide +kernel
theorem dX10_mend_16 : decode cX10_mend 16 = .ok (.istore_n 1, 1) := by decide +kernel
