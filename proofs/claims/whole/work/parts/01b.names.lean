theorem inlX0 : ∀ w ∈ wsX00, w ∈ wsL_law := fun _ h => List.mem_append_left _ (List.mem_append_right _ h)
theorem inX0 : ∀ w ∈ wsX00, w ∈ lw_tbl := fun w h => wsL_law_in w (inlX0 w h)
theorem inlX1 : ∀ w ∈ wsX10, w ∈ wsL_law := fun _ h => List.mem_append_left _ (List.mem_append_left _ (List.mem_append_right _ h))
theorem inX1 : ∀ w ∈ wsX10, w ∈ lw_tbl := fun w h => wsL_law_in w (inlX1 w h)
theorem inlX2 : ∀ w ∈ wsX20, w ∈ wsL_law := fun _ h => List.mem_append_left _ (List.mem_append_left _ (List.mem_append_left _ (List.mem_append_right _ h)))
theorem inX2 : ∀ w ∈ wsX20, w ∈ lw_tbl := fun w h => wsL_law_in w (inlX2 w h)
theorem inlX3 : ∀ w ∈ wsX30, w ∈ wsL_law := fun _ h => List.mem_append_left _ (List.mem_append_left _ (List.mem_append_left _ (List.mem_append_left _ (List.mem_append_left _ (List.mem_append_right _ h)))))
theorem inX3 : ∀ w ∈ wsX30, w ∈ lw_tbl := fun w h => wsL_law_in w (inlX3 w h)
theorem inlX4 : ∀ w ∈ wsX40, w ∈ wsL_law := fun _ h => List.mem_append_left _ (List.mem_append_left _ (List.mem_append_left _ (List.mem_append_left _ (List.mem_append_left _ (List.mem_append_left _ (List.mem_append_left _ (List.mem_append_left _ (List.mem_append_right _ h))))))))
theorem inX4 : ∀ w ∈ wsX40, w ∈ lw_tbl := fun w h => wsL_law_in w (inlX4 w h)
theorem inlX5 : ∀ w ∈ wsX50, w ∈ wsL_law := fun _ h => List.mem_append_left _ (List.mem_append_left _ (List.mem_append_left _ (List.mem_append_left _ (List.mem_append_left _ (List.mem_append_left _ (List.mem_append_right _ h))))))
theorem inX5 : ∀ w ∈ wsX50, w ∈ lw_tbl := fun w h => wsL_law_in w (inlX5 w h)
theorem inlX6 : ∀ w ∈ wsX60, w ∈ wsL_law := fun _ h => List.mem_append_left _ (List.mem_append_left _ (List.mem_append_left _ (List.mem_append_left _ (List.mem_append_left _ (List.mem_append_left _ (List.mem_append_left _ (List.mem_append_left _ (List.mem_append_left _ (List.mem_append_right _ h)))))))))
theorem inX6 : ∀ w ∈ wsX60, w ∈ lw_tbl := fun w h => wsL_law_in w (inlX6 w h)
theorem inlX7 : ∀ w ∈ wsX70, w ∈ wsL_law := fun _ h => List.mem_append_left _ (List.mem_append_left _ (List.mem_append_left _ (List.mem_append_left _ (List.mem_append_left _ (List.mem_append_left _ (List.mem_append_left _ (List.mem_append_right _ h)))))))
theorem inX7 : ∀ w ∈ wsX70, w ∈ lw_tbl := fun w h => wsL_law_in w (inlX7 w h)
theorem inlX8 : ∀ w ∈ wsX80, w ∈ wsL_law := fun _ h => List.mem_append_left _ (List.mem_append_left _ (List.mem_append_left _ (List.mem_append_left _ (List.mem_append_right _ h))))
theorem inX8 : ∀ w ∈ wsX80, w ∈ lw_tbl := fun w h => wsL_law_in w (inlX8 w h)
theorem inlX9 : ∀ w ∈ wsX90, w ∈ wsL_law := fun _ h => List.mem_append_left _ (List.mem_append_left _ (List.mem_append_left _ (List.mem_append_left _ (List.mem_append_left _ (List.mem_append_left _ (List.mem_append_left _ (List.mem_append_left _ (List.mem_append_left _ (List.mem_append_left _ (List.mem_append_left _ (List.mem_append_right _ h)))))))))))
theorem inX9 : ∀ w ∈ wsX90, w ∈ lw_tbl := fun w h => wsL_law_in w (inlX9 w h)
theorem inlX10 : ∀ w ∈ wsX100, w ∈ wsL_law := fun _ h => List.mem_append_left _ (List.mem_append_left _ (List.mem_append_left _ (List.mem_append_left _ (List.mem_append_left _ (List.mem_append_left _ (List.mem_append_left _ (List.mem_append_left _ (List.mem_append_left _ (List.mem_append_left _ (List.mem_append_right _ h))))))))))
theorem inX10 : ∀ w ∈ wsX100, w ∈ lw_tbl := fun w h => wsL_law_in w (inlX10 w h)
theorem inJx145de : ∀ w ∈ wsJx145de0, w ∈ lw_tbl := by decide +kernel
theorem inJx9f9b0 : ∀ w ∈ wsJx9f9b00, w ∈ lw_tbl := by decide +kernel
theorem inJ11 : ∀ w ∈ wsJ110, w ∈ lw_tbl := by decide +kernel
theorem inJx8e188 : ∀ w ∈ wsJx8e1880, w ∈ lw_tbl := by decide +kernel
theorem inJxb160c : ∀ w ∈ wsJxb160c0, w ∈ lw_tbl := by decide +kernel
theorem inJ9 : ∀ w ∈ wsJ90, w ∈ lw_tbl := by decide +kernel
theorem inJ0 : ∀ w ∈ wsJ00, w ∈ lw_tbl := by decide +kernel
theorem inJ1 : ∀ w ∈ wsJ10, w ∈ lw_tbl := by decide +kernel
theorem inJ2 : ∀ w ∈ wsJ20, w ∈ lw_tbl := by decide +kernel
theorem inJ10 : ∀ w ∈ wsJ100, w ∈ lw_tbl := by decide +kernel
theorem inJxfd54e : ∀ w ∈ wsJxfd54e0, w ∈ lw_tbl := by decide +kernel
theorem inJx3cf43 : ∀ w ∈ wsJx3cf430, w ∈ lw_tbl := by decide +kernel
theorem inJ7 : ∀ w ∈ wsJ70, w ∈ lw_tbl := by decide +kernel
theorem inJ3 : ∀ w ∈ wsJ30, w ∈ lw_tbl := by decide +kernel
theorem dX0_init_0 : decode cX0_init 0 = .ok (.aload_n 0, 1) := by decide +kernel
theorem dX0_init_1 : decode cX0_init 1 = .ok (.invokespecial 3, 3) := by decide +kernel
theorem dX0_init_4 : decode cX0_init 4 = .ok (.return_, 1) := by decide +kernel
set_option maxRecDepth 20000 in
theorem ggX0_workOut_X1_term : GoodIn wsX0_workOut wsX1_term := goodIn_r _ [20, 21, 22, 23, 24, 19, 25, 26, 27, 28, 29, 43, 44] (by decide +kernel) (by decide +kernel)
set_option maxRecDepth 20000 in
theorem gX0_workOut_X1_term : GoodIn wsX0_workOut (wsV RX0 9 RX1 yX1_term wsX1_term) := goodIn_app (goodIn_of _ (by decide +kernel)) ggX0_workOut_X1_term
set_option maxRecDepth 20000 in
theorem ggX0_workOut_X0_reasonAgainst : GoodIn wsX0_workOut wsX0_reasonAgainst := goodIn_r _ [34, 1, 2, 3, 4, 5, 14, 35, 36, 37, 38, 39, 40, 41, 42] (by decide +kernel) (by decide +kernel)
set_option maxRecDepth 20000 in
theorem gX0_workOut_X0_reasonAgainst : GoodIn wsX0_workOut (wsV RX0 47 RX0 yX0_reasonAgainst wsX0_reasonAgainst) := goodIn_app (goodIn_of _ (by decide +kernel)) ggX0_workOut_X0_reasonAgainst
theorem dX0_workOut_0 : decode cX0_workOut 0 = .ok (.aload_n 0, 1) := by decide +kernel
theorem dX0_workOut_1 : decode cX0_workOut 1 = .ok (.aload_n 1, 1) := by decide +kernel
theorem dX0_workOut_2 : decode cX0_workOut 2 = .ok (.iload_n 2, 1) := by decide +kernel
theorem dX0_workOut_3 : decode cX0_workOut 3 = .ok (.iconst 0, 1) := by decide +kernel
theorem dX0_workOut_4 : decode cX0_workOut 4 = .ok (.invokevirtual 9, 3) := by decide +kernel
theorem dX0_workOut_7 : decode cX0_workOut 7 = .ok (.putfield 15, 3) := by decide +kernel
theorem dX0_workOut_10 : decode cX0_workOut 10 = .ok (.aload_n 0, 1) := by decide +kernel
theorem dX0_workOut_11 : decode cX0_workOut 11 = .ok (.aload_n 0, 1) := by decide +kernel
theorem dX0_workOut_12 : decode cX0_workOut 12 = .ok (.getfield 15, 3) := by decide +kernel
theorem dX0_workOut_15 : decode cX0_workOut 15 = .ok (.aload_n 1, 1) := by decide +kernel
theorem dX0_workOut_16 : decode cX0_workOut 16 = .ok (.iload_n 2, 1) := by decide +kernel
theorem dX0_workOut_17 : decode cX0_workOut 17 = .ok (.iconst 1, 1) := by decide +kernel
theorem dX0_workOut_18 : decode cX0_workOut 18 = .ok (.invokevirtual 9, 3) := by decide +kernel
theorem dX0_workOut_21 : decode cX0_workOut 21 = .ok (.imul, 1) := by decide +kernel
theorem dX0_workOut_22 : decode cX0_workOut 22 = .ok (.bipush 99, 2) := by decide +kernel
theorem dX0_workOut_24 : decode cX0_workOut 24 = .ok (.iadd, 1) := by decide +kernel
theorem dX0_workOut_25 : decode cX0_workOut 25 = .ok (.bipush 100, 2) := by decide +kernel
theorem dX0_workOut_27 : decode cX0_workOut 27 = .ok (.idiv, 1) := by decide +kernel
theorem dX0_workOut_28 : decode cX0_workOut 28 = .ok (.putfield 21, 3) := by decide +kernel
theorem dX0_workOut_31 : decode cX0_workOut 31 = .ok (.aload_n 0, 1) := by decide +kernel
theorem dX0_workOut_32 : decode cX0_workOut 32 = .ok (.aload_n 0, 1) := by decide +kernel
theorem dX0_workOut_33 : decode cX0_workOut 33 = .ok (.getfield 15, 3) := by decide +kernel
theorem dX0_workOut_36 : decode cX0_workOut 36 = .ok (.aload_n 1, 1) := by decide +kernel
theorem dX0_workOut_37 : decode cX0_workOut 37 = .ok (.iload_n 2, 1) := by decide +kernel
theorem dX0_workOut_38 : decode cX0_workOut 38 = .ok (.iconst 2, 1) := by decide +kernel
theorem dX0_workOut_39 : decode cX0_workOut 39 = .ok (.invokevirtual 9, 3) := by decide +kernel
theorem dX0_workOut_42 : decode cX0_workOut 42 = .ok (.imul, 1) := by decide +kernel
theorem dX0_workOut_43 : decode cX0_workOut 43 = .ok (.bipush 100, 2) := by decide +kernel
theorem dX0_workOut_45 : decode cX0_workOut 45 = .ok (.idiv, 1) := by decide +kernel
theorem dX0_workOut_46 : decode cX0_workOut 46 = .ok (.putfield 24, 3) := by decide +kernel
theorem dX0_workOut_49 : decode cX0_workOut 49 = .ok (.aload_n 0, 1) := by decide +kernel
theorem dX0_workOut_50 : decode cX0_workOut 50 = .ok (.aload_n 0, 1) := by decide +kernel
theorem dX0_workOut_51 : decode cX0_workOut 51 = .ok (.getfield 15, 3) := by decide +kernel
theorem dX0_workOut_54 : decode cX0_workOut 54 = .ok (.aload_n 1, 1) := by decide +kernel
theorem dX0_workOut_55 : decode cX0_workOut 55 = .ok (.iload_n 2, 1) := by decide +kernel
theorem dX0_workOut_56 : decode cX0_workOut 56 = .ok (.iconst 3, 1) := by decide +kernel
theorem dX0_workOut_57 : decode cX0_workOut 57 = .ok (.invokevirtual 9, 3) := by decide +kernel
theorem dX0_workOut_60 : decode cX0_workOut 60 = .ok (.imul, 1) := by decide +kernel
theorem dX0_workOut_61 : decode cX0_workOut 61 = .ok (.bipush 99, 2) := by decide +kernel
theorem dX0_workOut_63 : decode cX0_workOut 63 = .ok (.iadd, 1) := by decide +kernel
theorem dX0_workOut_64 : decode cX0_workOut 64 = .ok (.bipush 100, 2) := by decide +kernel
theorem dX0_workOut_66 : decode cX0_workOut 66 = .ok (.idiv, 1) := by decide +kernel
theorem dX0_workOut_67 : decode cX0_workOut 67 = .ok (.putfield 27, 3) := by decide +kernel
theorem dX0_workOut_70 : decode cX0_workOut 70 = .ok (.aload_n 0, 1) := by decide +kernel
theorem dX0_workOut_71 : decode cX0_workOut 71 = .ok (.aload_n 0, 1) := by decide +kernel
theorem dX0_workOut_72 : decode cX0_workOut 72 = .ok (.getfield 15, 3) := by decide +kernel
theorem dX0_workOut_75 : decode cX0_workOut 75 = .ok (.aload_n 1, 1) := by decide +kernel
theorem dX0_workOut_76 : decode cX0_workOut 76 = .ok (.iload_n 2, 1) := by decide +kernel
theorem dX0_workOut_77 : decode cX0_workOut 77 = .ok (.iconst 4, 1) := by decide +kernel
theorem dX0_workOut_78 : decode cX0_workOut 78 = .ok (.invokevirtual 9, 3) := by decide +kernel
theorem dX0_workOut_81 : decode cX0_workOut 81 = .ok (.imul, 1) := by decide +kernel
theorem dX0_workOut_82 : decode cX0_workOut 82 = .ok (.bipush 100, 2) := by decide +kernel
theorem dX0_workOut_84 : decode cX0_workOut 84 = .ok (.idiv, 1) := by decide +kernel
theorem dX0_workOut_85 : decode cX0_workOut 85 = .ok (.putfield 30, 3) := by decide +kernel
theorem dX0_workOut_88 : decode cX0_workOut 88 = .ok (.aload_n 0, 1) := by decide +kernel
theorem dX0_workOut_89 : decode cX0_workOut 89 = .ok (.aload_n 0, 1) := by decide +kernel
theorem dX0_workOut_90 : decode cX0_workOut 90 = .ok (.getfield 30, 3) := by decide +kernel
theorem dX0_workOut_93 : decode cX0_workOut 93 = .ok (.aload_n 3, 1) := by decide +kernel
theorem dX0_workOut_94 : decode cX0_workOut 94 = .ok (.iconst 2, 1) := by decide +kernel
theorem dX0_workOut_95 : decode cX0_workOut 95 = .ok (.iaload, 1) := by decide +kernel
theorem dX0_workOut_96 : decode cX0_workOut 96 = .ok (.invokestatic 33, 3) := by decide +kernel
theorem dX0_workOut_99 : decode cX0_workOut 99 = .ok (.aload_n 0, 1) := by decide +kernel
theorem dX0_workOut_100 : decode cX0_workOut 100 = .ok (.getfield 15, 3) := by decide +kernel
theorem dX0_workOut_103 : decode cX0_workOut 103 = .ok (.aload_n 0, 1) := by decide +kernel
theorem dX0_workOut_104 : decode cX0_workOut 104 = .ok (.getfield 21, 3) := by decide +kernel
theorem dX0_workOut_107 : decode cX0_workOut 107 = .ok (.isub, 1) := by decide +kernel
theorem dX0_workOut_108 : decode cX0_workOut 108 = .ok (.invokestatic 33, 3) := by decide +kernel
theorem dX0_workOut_111 : decode cX0_workOut 111 = .ok (.putfield 38, 3) := by decide +kernel
theorem dX0_workOut_114 : decode cX0_workOut 114 = .ok (.aload_n 0, 1) := by decide +kernel
theorem dX0_workOut_115 : decode cX0_workOut 115 = .ok (.aload_n 0, 1) := by decide +kernel
theorem dX0_workOut_116 : decode cX0_workOut 116 = .ok (.getfield 21, 3) := by decide +kernel
theorem dX0_workOut_119 : decode cX0_workOut 119 = .ok (.aload_n 0, 1) := by decide +kernel
theorem dX0_workOut_120 : decode cX0_workOut 120 = .ok (.getfield 15, 3) := by decide +kernel
theorem dX0_workOut_123 : decode cX0_workOut 123 = .ok (.aload_n 0, 1) := by decide +kernel
theorem dX0_workOut_124 : decode cX0_workOut 124 = .ok (.getfield 38, 3) := by decide +kernel
theorem dX0_workOut_127 : decode cX0_workOut 127 = .ok (.isub, 1) := by decide +kernel
theorem dX0_workOut_128 : decode cX0_workOut 128 = .ok (.aload_n 3, 1) := by decide +kernel
theorem dX0_workOut_129 : decode cX0_workOut 129 = .ok (.iconst 1, 1) := by decide +kernel
theorem dX0_workOut_130 : decode cX0_workOut 130 = .ok (.iaload, 1) := by decide +kernel
theorem dX0_workOut_131 : decode cX0_workOut 131 = .ok (.isub, 1) := by decide +kernel
theorem dX0_workOut_132 : decode cX0_workOut 132 = .ok (.invokestatic 41, 3) := by decide +kernel
theorem dX0_workOut_135 : decode cX0_workOut 135 = .ok (.putfield 44, 3) := by decide +kernel
theorem dX0_workOut_138 : decode cX0_workOut 138 = .ok (.aload_n 0, 1) := by decide +kernel
theorem dX0_workOut_139 : decode cX0_workOut 139 = .ok (.aload_n 0, 1) := by decide +kernel
theorem dX0_workOut_140 : decode cX0_workOut 140 = .ok (.aload_n 3, 1) := by decide +kernel
theorem dX0_workOut_141 : decode cX0_workOut 141 = .ok (.invokevirtual 47, 3) := by decide +kernel
theorem dX0_workOut_144 : decode cX0_workOut 144 = .ok (.putfield 51, 3) := by decide +kernel
theorem dX0_workOut_147 : decode cX0_workOut 147 = .ok (.return_, 1) := by decide +kernel
theorem dX0_reasonAgainst_0 : decode cX0_reasonAgainst 0 = .ok (.aload_n 1, 1) := by decide +kernel
theorem dX0_reasonAgainst_1 : decode cX0_reasonAgainst 1 = .ok (.iconst 0, 1) := by decide +kernel
theorem dX0_reasonAgainst_2 : decode cX0_reasonAgainst 2 = .ok (.iaload, 1) := by decide +kernel
theorem dX0_reasonAgainst_3 : decode cX0_reasonAgainst 3 = .ok (.aload_n 1, 1) := by decide +kernel
theorem dX0_reasonAgainst_4 : decode cX0_reasonAgainst 4 = .ok (.iconst 1, 1) := by decide +kernel
theorem dX0_reasonAgainst_5 : decode cX0_reasonAgainst 5 = .ok (.iaload, 1) := by decide +kernel
theorem dX0_reasonAgainst_6 : decode cX0_reasonAgainst 6 = .ok (.iadd, 1) := by decide +kernel
theorem dX0_reasonAgainst_7 : decode cX0_reasonAgainst 7 = .ok (.aload_n 1, 1) := by decide +kernel
theorem dX0_reasonAgainst_8 : decode cX0_reasonAgainst 8 = .ok (.iconst 2, 1) := by decide +kernel
theorem dX0_reasonAgainst_9 : decode cX0_reasonAgainst 9 = .ok (.iaload, 1) := by decide +kernel
theorem dX0_reasonAgainst_10 : decode cX0_reasonAgainst 10 = .ok (.iadd, 1) := by decide +kernel
theorem dX0_reasonAgainst_11 : decode cX0_reasonAgainst 11 = .ok (.aload_n 0, 1) := by decide +kernel
theorem dX0_reasonAgainst_12 : decode cX0_reasonAgainst 12 = .ok (.getfield 15, 3) := by decide +kernel
theorem dX0_reasonAgainst_15 : decode cX0_reasonAgainst 15 = .ok (.if_icmp .ge 5, 3) := by decide +kernel
theorem dX0_reasonAgainst_18 : decode cX0_reasonAgainst 18 = .ok (.iconst 1, 1) := by decide +kernel
theorem dX0_reasonAgainst_19 : decode cX0_reasonAgainst 19 = .ok (.ireturn, 1) := by decide +kernel
theorem dX0_reasonAgainst_20 : decode cX0_reasonAgainst 20 = .ok (.aload_n 0, 1) := by decide +kernel
theorem dX0_reasonAgainst_21 : decode cX0_reasonAgainst 21 = .ok (.getfield 21, 3) := by decide +kernel
theorem dX0_reasonAgainst_24 : decode cX0_reasonAgainst 24 = .ok (.aload_n 0, 1) := by decide +kernel
theorem dX0_reasonAgainst_25 : decode cX0_reasonAgainst 25 = .ok (.getfield 24, 3) := by decide +kernel
theorem dX0_reasonAgainst_28 : decode cX0_reasonAgainst 28 = .ok (.if_icmp .gt 30, 3) := by decide +kernel
theorem dX0_reasonAgainst_31 : decode cX0_reasonAgainst 31 = .ok (.aload_n 0, 1) := by decide +kernel
theorem dX0_reasonAgainst_32 : decode cX0_reasonAgainst 32 = .ok (.getfield 27, 3) := by decide +kernel
theorem dX0_reasonAgainst_35 : decode cX0_reasonAgainst 35 = .ok (.aload_n 0, 1) := by decide +kernel
theorem dX0_reasonAgainst_36 : decode cX0_reasonAgainst 36 = .ok (.getfield 30, 3) := by decide +kernel
theorem dX0_reasonAgainst_39 : decode cX0_reasonAgainst 39 = .ok (.if_icmp .gt 19, 3) := by decide +kernel
theorem dX0_reasonAgainst_42 : decode cX0_reasonAgainst 42 = .ok (.aload_n 0, 1) := by decide +kernel
theorem dX0_reasonAgainst_43 : decode cX0_reasonAgainst 43 = .ok (.getfield 21, 3) := by decide +kernel
theorem dX0_reasonAgainst_46 : decode cX0_reasonAgainst 46 = .ok (.aload_n 0, 1) := by decide +kernel
theorem dX0_reasonAgainst_47 : decode cX0_reasonAgainst 47 = .ok (.getfield 27, 3) := by decide +kernel
theorem dX0_reasonAgainst_50 : decode cX0_reasonAgainst 50 = .ok (.iadd, 1) := by decide +kernel
theorem dX0_reasonAgainst_51 : decode cX0_reasonAgainst 51 = .ok (.aload_n 0, 1) := by decide +kernel
theorem dX0_reasonAgainst_52 : decode cX0_reasonAgainst 52 = .ok (.getfield 15, 3) := by decide +kernel
theorem dX0_reasonAgainst_55 : decode cX0_reasonAgainst 55 = .ok (.if_icmp .le 5, 3) := by decide +kernel
theorem dX0_reasonAgainst_58 : decode cX0_reasonAgainst 58 = .ok (.iconst 2, 1) := by decide +kernel
theorem dX0_reasonAgainst_59 : decode cX0_reasonAgainst 59 = .ok (.ireturn, 1) := by decide +kernel
theorem dX0_reasonAgainst_60 : decode cX0_reasonAgainst 60 = .ok (.aload_n 1, 1) := by decide +kernel
theorem dX0_reasonAgainst_61 : decode cX0_reasonAgainst 61 = .ok (.iconst 0, 1) := by decide +kernel
theorem dX0_reasonAgainst_62 : decode cX0_reasonAgainst 62 = .ok (.iaload, 1) := by decide +kernel
theorem dX0_reasonAgainst_63 : decode cX0_reasonAgainst 63 = .ok (.aload_n 0, 1) := by decide +kernel
theorem dX0_reasonAgainst_64 : decode cX0_reasonAgainst 64 = .ok (.getfield 21, 3) := by decide +kernel
theorem dX0_reasonAgainst_67 : decode cX0_reasonAgainst 67 = .ok (.if_icmp .ge 5, 3) := by decide +kernel
theorem dX0_reasonAgainst_70 : decode cX0_reasonAgainst 70 = .ok (.iconst 3, 1) := by decide +kernel
theorem dX0_reasonAgainst_71 : decode cX0_reasonAgainst 71 = .ok (.ireturn, 1) := by decide +kernel
theorem dX0_reasonAgainst_72 : decode cX0_reasonAgainst 72 = .ok (.aload_n 1, 1) := by decide +kernel
theorem dX0_reasonAgainst_73 : decode cX0_reasonAgainst 73 = .ok (.iconst 2, 1) := by decide +kernel
theorem dX0_reasonAgainst_74 : decode cX0_reasonAgainst 74 = .ok (.iaload, 1) := by decide +kernel
theorem dX0_reasonAgainst_75 : decode cX0_reasonAgainst 75 = .ok (.aload_n 0, 1) := by decide +kernel
theorem dX0_reasonAgainst_76 : decode cX0_reasonAgainst 76 = .ok (.getfield 27, 3) := by decide +kernel
theorem dX0_reasonAgainst_79 : decode cX0_reasonAgainst 79 = .ok (.if_icmp .ge 5, 3) := by decide +kernel
theorem dX0_reasonAgainst_82 : decode cX0_reasonAgainst 82 = .ok (.iconst 4, 1) := by decide +kernel
theorem dX0_reasonAgainst_83 : decode cX0_reasonAgainst 83 = .ok (.ireturn, 1) := by decide +kernel
theorem dX0_reasonAgainst_84 : decode cX0_reasonAgainst 84 = .ok (.aload_n 0, 1) := by decide +kernel
theorem dX0_reasonAgainst_85 : decode cX0_reasonAgainst 85 = .ok (.getfield 44, 3) := by decide +kernel
theorem dX0_reasonAgainst_88 : decode cX0_reasonAgainst 88 = .ok (.aload_n 0, 1) := by decide +kernel
theorem dX0_reasonAgainst_89 : decode cX0_reasonAgainst 89 = .ok (.getfield 24, 3) := by decide +kernel
theorem dX0_reasonAgainst_92 : decode cX0_reasonAgainst 92 = .ok (.if_icmp .gt 13, 3) := by decide +kernel
theorem dX0_reasonAgainst_95 : decode cX0_reasonAgainst 95 = .ok (.aload_n 0, 1) := by decide +kernel
theorem dX0_reasonAgainst_96 : decode cX0_reasonAgainst 96 = .ok (.getfield 44, 3) := by decide +kernel
theorem dX0_reasonAgainst_99 : decode cX0_reasonAgainst 99 = .ok (.aload_n 1, 1) := by decide +kernel
theorem dX0_reasonAgainst_100 : decode cX0_reasonAgainst 100 = .ok (.iconst 0, 1) := by decide +kernel
theorem dX0_reasonAgainst_101 : decode cX0_reasonAgainst 101 = .ok (.iaload, 1) := by decide +kernel
theorem dX0_reasonAgainst_102 : decode cX0_reasonAgainst 102 = .ok (.if_icmp .le 7, 3) := by decide +kernel
theorem dX0_reasonAgainst_105 : decode cX0_reasonAgainst 105 = .ok (.iconst 5, 1) := by decide +kernel
theorem dX0_reasonAgainst_106 : decode cX0_reasonAgainst 106 = .ok (.goto 4, 3) := by decide +kernel
theorem dX0_reasonAgainst_109 : decode cX0_reasonAgainst 109 = .ok (.iconst 0, 1) := by decide +kernel
theorem dX0_reasonAgainst_110 : decode cX0_reasonAgainst 110 = .ok (.ireturn, 1) := by decide +kernel
theorem dX1_init_0 : decode cX1_init 0 = .ok (.aload_n 0, 1) := by decide +kernel
theorem dX1_init_1 : decode cX1_init 1 = .ok (.invokespecial 3, 3) := by decide +kernel
theorem dX1_init_4 : decode cX1_init 4 = .ok (.aload_n 0, 1) := by decide +kernel
theorem dX1_init_5 : decode cX1_init 5 = .ok (.bipush 72, 2) := by decide +kernel
theorem dX1_init_7 : decode cX1_init 7 = .ok (.newarray .int, 2) := by decide +kernel
theorem dX1_init_9 : decode cX1_init 9 = .ok (.putfield 9, 3) := by decide +kernel
theorem dX1_init_12 : decode cX1_init 12 = .ok (.return_, 1) := by decide +kernel
set_option maxRecDepth 20000 in
theorem ggX1_copyFrom_X9_copyAll : GoodIn wsX1_copyFrom wsX9_copyAll := goodIn_r _ [5, 6, 7, 8, 9, 10, 11, 12, 13] (by decide +kernel) (by decide +kernel)
set_option maxRecDepth 20000 in
theorem gX1_copyFrom_X9_copyAll_n15 : GoodIn wsX1_copyFrom (wsX9_copyAll) := ggX1_copyFrom_X9_copyAll
theorem dX1_copyFrom_0 : decode cX1_copyFrom 0 = .ok (.aload_n 1, 1) := by decide +kernel
theorem dX1_copyFrom_1 : decode cX1_copyFrom 1 = .ok (.getfield 9, 3) := by decide +kernel
theorem dX1_copyFrom_4 : decode cX1_copyFrom 4 = .ok (.aload_n 0, 1) := by decide +kernel
theorem dX1_copyFrom_5 : decode cX1_copyFrom 5 = .ok (.getfield 9, 3) := by decide +kernel
theorem dX1_copyFrom_8 : decode cX1_copyFrom 8 = .ok (.invokestatic 15, 3) := by decide +kernel
theorem dX1_copyFrom_11 : decode cX1_copyFrom 11 = .ok (.aload_n 0, 1) := by decide +kernel
theorem dX1_copyFrom_12 : decode cX1_copyFrom 12 = .ok (.aload_n 1, 1) := by decide +kernel
theorem dX1_copyFrom_13 : decode cX1_copyFrom 13 = .ok (.getfield 19, 3) := by decide +kernel
theorem dX1_copyFrom_16 : decode cX1_copyFrom 16 = .ok (.putfield 19, 3) := by decide +kernel
theorem dX1_copyFrom_19 : decode cX1_copyFrom 19 = .ok (.return_, 1) := by decide +kernel
theorem dX1_has_0 : decode cX1_has 0 = .ok (.iload_n 1, 1) := by decide +kernel
theorem dX1_has_1 : decode cX1_has 1 = .ok (.ifCond .lt 21, 3) := by decide +kernel
theorem dX1_has_4 : decode cX1_has 4 = .ok (.iload_n 1, 1) := by decide +kernel
theorem dX1_has_5 : decode cX1_has 5 = .ok (.aload_n 0, 1) := by decide +kernel
theorem dX1_has_6 : decode cX1_has 6 = .ok (.getfield 19, 3) := by decide +kernel
theorem dX1_has_9 : decode cX1_has 9 = .ok (.if_icmp .ge 13, 3) := by decide +kernel
theorem dX1_has_12 : decode cX1_has 12 = .ok (.iload_n 1, 1) := by decide +kernel
theorem dX1_has_13 : decode cX1_has 13 = .ok (.bipush 12, 2) := by decide +kernel
theorem dX1_has_15 : decode cX1_has 15 = .ok (.if_icmp .ge 7, 3) := by decide +kernel
theorem dX1_has_18 : decode cX1_has 18 = .ok (.iconst 1, 1) := by decide +kernel
theorem dX1_has_19 : decode cX1_has 19 = .ok (.goto 4, 3) := by decide +kernel
theorem dX1_has_22 : decode cX1_has 22 = .ok (.iconst 0, 1) := by decide +kernel
theorem dX1_has_23 : decode cX1_has 23 = .ok (.ireturn, 1) := by decide +kernel
set_option maxRecDepth 20000 in
theorem ggX1_term_X1_has : GoodIn wsX1_term wsX1_has := goodIn_r _ [6, 7, 11, 12] (by decide +kernel) (by decide +kernel)
set_option maxRecDepth 20000 in
theorem gX1_term_X1_has : GoodIn wsX1_term (wsV RX1 23 RX1 yX1_has wsX1_has) := goodIn_app (goodIn_of _ (by decide +kernel)) ggX1_term_X1_has
set_option maxRecDepth 20000 in
theorem ggX1_term_X9_within : GoodIn wsX1_term wsX9_within := goodIn_r _ [10] (by decide +kernel) (by decide +kernel)
set_option maxRecDepth 20000 in
theorem gX1_term_X9_within_n27 : GoodIn wsX1_term (wsX9_within) := ggX1_term_X9_within
theorem dX1_term_0 : decode cX1_term 0 = .ok (.aload_n 0, 1) := by decide +kernel
theorem dX1_term_1 : decode cX1_term 1 = .ok (.iload_n 1, 1) := by decide +kernel
theorem dX1_term_2 : decode cX1_term 2 = .ok (.invokevirtual 23, 3) := by decide +kernel
theorem dX1_term_5 : decode cX1_term 5 = .ok (.ifCond .eq 12, 3) := by decide +kernel
theorem dX1_term_8 : decode cX1_term 8 = .ok (.iload_n 2, 1) := by decide +kernel
theorem dX1_term_9 : decode cX1_term 9 = .ok (.iconst 0, 1) := by decide +kernel
theorem dX1_term_10 : decode cX1_term 10 = .ok (.iconst 5, 1) := by decide +kernel
theorem dX1_term_11 : decode cX1_term 11 = .ok (.invokestatic 27, 3) := by decide +kernel
theorem dX1_term_14 : decode cX1_term 14 = .ok (.ifCond .ne 5, 3) := by decide +kernel
theorem dX1_term_17 : decode cX1_term 17 = .ok (.iconst 0, 1) := by decide +kernel
theorem dX1_term_18 : decode cX1_term 18 = .ok (.ireturn, 1) := by decide +kernel
theorem dX1_term_19 : decode cX1_term 19 = .ok (.aload_n 0, 1) := by decide +kernel
theorem dX1_term_20 : decode cX1_term 20 = .ok (.getfield 9, 3) := by decide +kernel
theorem dX1_term_23 : decode cX1_term 23 = .ok (.iload_n 1, 1) := by decide +kernel
theorem dX1_term_24 : decode cX1_term 24 = .ok (.bipush 6, 2) := by decide +kernel
theorem dX1_term_26 : decode cX1_term 26 = .ok (.imul, 1) := by decide +kernel
theorem dX1_term_27 : decode cX1_term 27 = .ok (.iload_n 2, 1) := by decide +kernel
theorem dX1_term_28 : decode cX1_term 28 = .ok (.iadd, 1) := by decide +kernel
theorem dX1_term_29 : decode cX1_term 29 = .ok (.iaload, 1) := by decide +kernel
theorem dX1_term_30 : decode cX1_term 30 = .ok (.ireturn, 1) := by decide +kernel
set_option maxRecDepth 20000 in
theorem ggX1_add_X9_within : GoodIn wsX1_add wsX9_within := goodIn_r _ [5] (by decide +kernel) (by decide +kernel)
set_option maxRecDepth 20000 in
theorem gX1_add_X9_within_n27 : GoodIn wsX1_add (wsX9_within) := ggX1_add_X9_within
set_option maxRecDepth 20000 in
theorem ggX1_add_X1_areHundredths : GoodIn wsX1_add wsX1_areHundredths := goodIn_r _ [9, 3, 4, 5] (by decide +kernel) (by decide +kernel)
set_option maxRecDepth 20000 in
theorem gX1_add_X1_areHundredths : GoodIn wsX1_add (va_wsS RX1 31 yX1_areHundredths wsX1_areHundredths) := goodIn_app (goodIn_of _ (by decide +kernel)) ggX1_add_X1_areHundredths
theorem dX1_add_0 : decode cX1_add 0 = .ok (.iload_n 1, 1) := by decide +kernel
theorem dX1_add_1 : decode cX1_add 1 = .ok (.iconst 1, 1) := by decide +kernel
theorem dX1_add_2 : decode cX1_add 2 = .ok (.sipush 500, 3) := by decide +kernel
theorem dX1_add_5 : decode cX1_add 5 = .ok (.invokestatic 27, 3) := by decide +kernel
theorem dX1_add_8 : decode cX1_add 8 = .ok (.ifCond .eq 32, 3) := by decide +kernel
theorem dX1_add_11 : decode cX1_add 11 = .ok (.iload 6, 2) := by decide +kernel
theorem dX1_add_13 : decode cX1_add 13 = .ok (.iconst 0, 1) := by decide +kernel
theorem dX1_add_14 : decode cX1_add 14 = .ok (.bipush 99, 2) := by decide +kernel
theorem dX1_add_16 : decode cX1_add 16 = .ok (.invokestatic 27, 3) := by decide +kernel
theorem dX1_add_19 : decode cX1_add 19 = .ok (.ifCond .eq 21, 3) := by decide +kernel
theorem dX1_add_22 : decode cX1_add 22 = .ok (.iload_n 2, 1) := by decide +kernel
theorem dX1_add_23 : decode cX1_add 23 = .ok (.iload_n 3, 1) := by decide +kernel
theorem dX1_add_24 : decode cX1_add 24 = .ok (.invokestatic 31, 3) := by decide +kernel
theorem dX1_add_27 : decode cX1_add 27 = .ok (.ifCond .eq 13, 3) := by decide +kernel
theorem dX1_add_30 : decode cX1_add 30 = .ok (.iload 4, 2) := by decide +kernel
theorem dX1_add_32 : decode cX1_add 32 = .ok (.iload 5, 2) := by decide +kernel
theorem dX1_add_34 : decode cX1_add 34 = .ok (.invokestatic 31, 3) := by decide +kernel
theorem dX1_add_37 : decode cX1_add 37 = .ok (.ifCond .ne 6, 3) := by decide +kernel
theorem dX1_add_40 : decode cX1_add 40 = .ok (.bipush (-2), 2) := by decide +kernel
theorem dX1_add_42 : decode cX1_add 42 = .ok (.ireturn, 1) := by decide +kernel
theorem dX1_add_43 : decode cX1_add 43 = .ok (.aload_n 0, 1) := by decide +kernel
theorem dX1_add_44 : decode cX1_add 44 = .ok (.getfield 19, 3) := by decide +kernel
theorem dX1_add_47 : decode cX1_add 47 = .ok (.istore 7, 2) := by decide +kernel
theorem dX1_add_49 : decode cX1_add 49 = .ok (.iload 7, 2) := by decide +kernel
theorem dX1_add_51 : decode cX1_add 51 = .ok (.iconst 0, 1) := by decide +kernel
theorem dX1_add_52 : decode cX1_add 52 = .ok (.bipush 11, 2) := by decide +kernel
theorem dX1_add_54 : decode cX1_add 54 = .ok (.invokestatic 27, 3) := by decide +kernel
theorem dX1_add_57 : decode cX1_add 57 = .ok (.ifCond .ne 6, 3) := by decide +kernel
theorem dX1_add_60 : decode cX1_add 60 = .ok (.bipush (-4), 2) := by decide +kernel
theorem dX1_add_62 : decode cX1_add 62 = .ok (.ireturn, 1) := by decide +kernel
theorem dX1_add_63 : decode cX1_add 63 = .ok (.iload 7, 2) := by decide +kernel
theorem dX1_add_65 : decode cX1_add 65 = .ok (.bipush 6, 2) := by decide +kernel
theorem dX1_add_67 : decode cX1_add 67 = .ok (.imul, 1) := by decide +kernel
theorem dX1_add_68 : decode cX1_add 68 = .ok (.istore 8, 2) := by decide +kernel
theorem dX1_add_70 : decode cX1_add 70 = .ok (.aload_n 0, 1) := by decide +kernel
theorem dX1_add_71 : decode cX1_add 71 = .ok (.getfield 9, 3) := by decide +kernel
theorem dX1_add_74 : decode cX1_add 74 = .ok (.iload 8, 2) := by decide +kernel
theorem dX1_add_76 : decode cX1_add 76 = .ok (.iconst 0, 1) := by decide +kernel
theorem dX1_add_77 : decode cX1_add 77 = .ok (.iadd, 1) := by decide +kernel
theorem dX1_add_78 : decode cX1_add 78 = .ok (.iload_n 1, 1) := by decide +kernel
theorem dX1_add_79 : decode cX1_add 79 = .ok (.iastore, 1) := by decide +kernel
theorem dX1_add_80 : decode cX1_add 80 = .ok (.aload_n 0, 1) := by decide +kernel
theorem dX1_add_81 : decode cX1_add 81 = .ok (.getfield 9, 3) := by decide +kernel
theorem dX1_add_84 : decode cX1_add 84 = .ok (.iload 8, 2) := by decide +kernel
theorem dX1_add_86 : decode cX1_add 86 = .ok (.iconst 1, 1) := by decide +kernel
theorem dX1_add_87 : decode cX1_add 87 = .ok (.iadd, 1) := by decide +kernel
theorem dX1_add_88 : decode cX1_add 88 = .ok (.iload_n 2, 1) := by decide +kernel
theorem dX1_add_89 : decode cX1_add 89 = .ok (.iastore, 1) := by decide +kernel
theorem dX1_add_90 : decode cX1_add 90 = .ok (.aload_n 0, 1) := by decide +kernel
theorem dX1_add_91 : decode cX1_add 91 = .ok (.getfield 9, 3) := by decide +kernel
theorem dX1_add_94 : decode cX1_add 94 = .ok (.iload 8, 2) := by decide +kernel
theorem dX1_add_96 : decode cX1_add 96 = .ok (.iconst 2, 1) := by decide +kernel
theorem dX1_add_97 : decode cX1_add 97 = .ok (.iadd, 1) := by decide +kernel
theorem dX1_add_98 : decode cX1_add 98 = .ok (.iload_n 3, 1) := by decide +kernel
theorem dX1_add_99 : decode cX1_add 99 = .ok (.iastore, 1) := by decide +kernel
theorem dX1_add_100 : decode cX1_add 100 = .ok (.aload_n 0, 1) := by decide +kernel
theorem dX1_add_101 : decode cX1_add 101 = .ok (.getfield 9, 3) := by decide +kernel
theorem dX1_add_104 : decode cX1_add 104 = .ok (.iload 8, 2) := by decide +kernel
theorem dX1_add_106 : decode cX1_add 106 = .ok (.iconst 3, 1) := by decide +kernel
theorem dX1_add_107 : decode cX1_add 107 = .ok (.iadd, 1) := by decide +kernel
theorem dX1_add_108 : decode cX1_add 108 = .ok (.iload 4, 2) := by decide +kernel
theorem dX1_add_110 : decode cX1_add 110 = .ok (.iastore, 1) := by decide +kernel
theorem dX1_add_111 : decode cX1_add 111 = .ok (.aload_n 0, 1) := by decide +kernel
theorem dX1_add_112 : decode cX1_add 112 = .ok (.getfield 9, 3) := by decide +kernel
theorem dX1_add_115 : decode cX1_add 115 = .ok (.iload 8, 2) := by decide +kernel
theorem dX1_add_117 : decode cX1_add 117 = .ok (.iconst 4, 1) := by decide +kernel
theorem dX1_add_118 : decode cX1_add 118 = .ok (.iadd, 1) := by decide +kernel
theorem dX1_add_119 : decode cX1_add 119 = .ok (.iload 5, 2) := by decide +kernel
theorem dX1_add_121 : decode cX1_add 121 = .ok (.iastore, 1) := by decide +kernel
theorem dX1_add_122 : decode cX1_add 122 = .ok (.aload_n 0, 1) := by decide +kernel
theorem dX1_add_123 : decode cX1_add 123 = .ok (.getfield 9, 3) := by decide +kernel
theorem dX1_add_126 : decode cX1_add 126 = .ok (.iload 8, 2) := by decide +kernel
theorem dX1_add_128 : decode cX1_add 128 = .ok (.iconst 5, 1) := by decide +kernel
theorem dX1_add_129 : decode cX1_add 129 = .ok (.iadd, 1) := by decide +kernel
theorem dX1_add_130 : decode cX1_add 130 = .ok (.iload 6, 2) := by decide +kernel
theorem dX1_add_132 : decode cX1_add 132 = .ok (.iastore, 1) := by decide +kernel
theorem dX1_add_133 : decode cX1_add 133 = .ok (.aload_n 0, 1) := by decide +kernel
theorem dX1_add_134 : decode cX1_add 134 = .ok (.dup, 1) := by decide +kernel
theorem dX1_add_135 : decode cX1_add 135 = .ok (.getfield 19, 3) := by decide +kernel
theorem dX1_add_138 : decode cX1_add 138 = .ok (.iconst 1, 1) := by decide +kernel
theorem dX1_add_139 : decode cX1_add 139 = .ok (.iadd, 1) := by decide +kernel
theorem dX1_add_140 : decode cX1_add 140 = .ok (.putfield 19, 3) := by decide +kernel
theorem dX1_add_143 : decode cX1_add 143 = .ok (.iload 7, 2) := by decide +kernel
theorem dX1_add_145 : decode cX1_add 145 = .ok (.ireturn, 1) := by decide +kernel
set_option maxRecDepth 20000 in
theorem ggX1_areHundredths_X9_within : GoodIn wsX1_areHundredths wsX9_within := goodIn_r _ [3] (by decide +kernel) (by decide +kernel)
set_option maxRecDepth 20000 in
theorem gX1_areHundredths_X9_within_n27 : GoodIn wsX1_areHundredths (wsX9_within) := ggX1_areHundredths_X9_within
theorem dX1_areHundredths_0 : decode cX1_areHundredths 0 = .ok (.iload_n 0, 1) := by decide +kernel
theorem dX1_areHundredths_1 : decode cX1_areHundredths 1 = .ok (.iconst 0, 1) := by decide +kernel
theorem dX1_areHundredths_2 : decode cX1_areHundredths 2 = .ok (.bipush 100, 2) := by decide +kernel
theorem dX1_areHundredths_4 : decode cX1_areHundredths 4 = .ok (.invokestatic 27, 3) := by decide +kernel
theorem dX1_areHundredths_7 : decode cX1_areHundredths 7 = .ok (.ifCond .eq 17, 3) := by decide +kernel
theorem dX1_areHundredths_10 : decode cX1_areHundredths 10 = .ok (.iload_n 1, 1) := by decide +kernel
theorem dX1_areHundredths_11 : decode cX1_areHundredths 11 = .ok (.iload_n 0, 1) := by decide +kernel
theorem dX1_areHundredths_12 : decode cX1_areHundredths 12 = .ok (.bipush 100, 2) := by decide +kernel
theorem dX1_areHundredths_14 : decode cX1_areHundredths 14 = .ok (.invokestatic 27, 3) := by decide +kernel
theorem dX1_areHundredths_17 : decode cX1_areHundredths 17 = .ok (.ifCond .eq 7, 3) := by decide +kernel
theorem dX1_areHundredths_20 : decode cX1_areHundredths 20 = .ok (.iconst 1, 1) := by decide +kernel
theorem dX1_areHundredths_21 : decode cX1_areHundredths 21 = .ok (.goto 4, 3) := by decide +kernel
theorem dX1_areHundredths_24 : decode cX1_areHundredths 24 = .ok (.iconst 0, 1) := by decide +kernel
theorem dX1_areHundredths_25 : decode cX1_areHundredths 25 = .ok (.ireturn, 1) := by decide +kernel
set_option maxRecDepth 20000 in
theorem ggX1_dropOne_X1_has : GoodIn wsX1_dropOne wsX1_has := goodIn_r _ [15, 1, 16, 17] (by decide +kernel) (by decide +kernel)
set_option maxRecDepth 20000 in
theorem gX1_dropOne_X1_has : GoodIn wsX1_dropOne (wsV RX1 23 RX1 yX1_has wsX1_has) := goodIn_app (goodIn_of _ (by decide +kernel)) ggX1_dropOne_X1_has
theorem dX1_dropOne_0 : decode cX1_dropOne 0 = .ok (.aload_n 0, 1) := by decide +kernel
theorem dX1_dropOne_1 : decode cX1_dropOne 1 = .ok (.iload_n 1, 1) := by decide +kernel
theorem dX1_dropOne_2 : decode cX1_dropOne 2 = .ok (.invokevirtual 23, 3) := by decide +kernel
theorem dX1_dropOne_5 : decode cX1_dropOne 5 = .ok (.ifCond .ne 5, 3) := by decide +kernel
theorem dX1_dropOne_8 : decode cX1_dropOne 8 = .ok (.iconst (-1), 1) := by decide +kernel
theorem dX1_dropOne_9 : decode cX1_dropOne 9 = .ok (.ireturn, 1) := by decide +kernel
theorem dX1_dropOne_10 : decode cX1_dropOne 10 = .ok (.iload_n 1, 1) := by decide +kernel
theorem dX1_dropOne_11 : decode cX1_dropOne 11 = .ok (.bipush 6, 2) := by decide +kernel
theorem dX1_dropOne_13 : decode cX1_dropOne 13 = .ok (.imul, 1) := by decide +kernel
theorem dX1_dropOne_14 : decode cX1_dropOne 14 = .ok (.istore_n 2, 1) := by decide +kernel
theorem dX1_dropOne_15 : decode cX1_dropOne 15 = .ok (.aload_n 0, 1) := by decide +kernel
theorem dX1_dropOne_16 : decode cX1_dropOne 16 = .ok (.getfield 19, 3) := by decide +kernel
theorem dX1_dropOne_19 : decode cX1_dropOne 19 = .ok (.bipush 12, 2) := by decide +kernel
theorem dX1_dropOne_21 : decode cX1_dropOne 21 = .ok (.invokestatic 35, 3) := by decide +kernel
theorem dX1_dropOne_24 : decode cX1_dropOne 24 = .ok (.iconst 1, 1) := by decide +kernel
theorem dX1_dropOne_25 : decode cX1_dropOne 25 = .ok (.isub, 1) := by decide +kernel
theorem dX1_dropOne_26 : decode cX1_dropOne 26 = .ok (.iload_n 1, 1) := by decide +kernel
theorem dX1_dropOne_27 : decode cX1_dropOne 27 = .ok (.isub, 1) := by decide +kernel
theorem dX1_dropOne_28 : decode cX1_dropOne 28 = .ok (.bipush 6, 2) := by decide +kernel
theorem dX1_dropOne_30 : decode cX1_dropOne 30 = .ok (.imul, 1) := by decide +kernel
theorem dX1_dropOne_31 : decode cX1_dropOne 31 = .ok (.istore_n 3, 1) := by decide +kernel
theorem dX1_dropOne_32 : decode cX1_dropOne 32 = .ok (.iload_n 3, 1) := by decide +kernel
theorem dX1_dropOne_33 : decode cX1_dropOne 33 = .ok (.ifCond .le 20, 3) := by decide +kernel
theorem dX1_dropOne_36 : decode cX1_dropOne 36 = .ok (.aload_n 0, 1) := by decide +kernel
theorem dX1_dropOne_37 : decode cX1_dropOne 37 = .ok (.getfield 9, 3) := by decide +kernel
theorem dX1_dropOne_40 : decode cX1_dropOne 40 = .ok (.iload_n 2, 1) := by decide +kernel
theorem dX1_dropOne_41 : decode cX1_dropOne 41 = .ok (.bipush 6, 2) := by decide +kernel
theorem dX1_dropOne_43 : decode cX1_dropOne 43 = .ok (.iadd, 1) := by decide +kernel
theorem dX1_dropOne_44 : decode cX1_dropOne 44 = .ok (.aload_n 0, 1) := by decide +kernel
theorem dX1_dropOne_45 : decode cX1_dropOne 45 = .ok (.getfield 9, 3) := by decide +kernel
theorem dX1_dropOne_48 : decode cX1_dropOne 48 = .ok (.iload_n 2, 1) := by decide +kernel
theorem dX1_dropOne_49 : decode cX1_dropOne 49 = .ok (.iload_n 3, 1) := by decide +kernel
theorem dX1_dropOne_50 : decode cX1_dropOne 50 = .ok (.invokestatic 41, 3) := by decide +kernel
theorem dX1_dropOne_53 : decode cX1_dropOne 53 = .ok (.aload_n 0, 1) := by decide +kernel
theorem dX1_dropOne_54 : decode cX1_dropOne 54 = .ok (.dup, 1) := by decide +kernel
theorem dX1_dropOne_55 : decode cX1_dropOne 55 = .ok (.getfield 19, 3) := by decide +kernel
theorem dX1_dropOne_58 : decode cX1_dropOne 58 = .ok (.iconst 1, 1) := by decide +kernel
theorem dX1_dropOne_59 : decode cX1_dropOne 59 = .ok (.isub, 1) := by decide +kernel
theorem dX1_dropOne_60 : decode cX1_dropOne 60 = .ok (.putfield 19, 3) := by decide +kernel
theorem dX1_dropOne_63 : decode cX1_dropOne 63 = .ok (.aload_n 0, 1) := by decide +kernel
theorem dX1_dropOne_64 : decode cX1_dropOne 64 = .ok (.getfield 19, 3) := by decide +kernel
theorem dX1_dropOne_67 : decode cX1_dropOne 67 = .ok (.ireturn, 1) := by decide +kernel
theorem dX2_init_0 : decode cX2_init 0 = .ok (.aload_n 0, 1) := by decide +kernel
theorem dX2_init_1 : decode cX2_init 1 = .ok (.invokespecial 3, 3) := by decide +kernel
theorem dX2_init_4 : decode cX2_init 4 = .ok (.aload_n 0, 1) := by decide +kernel
theorem dX2_init_5 : decode cX2_init 5 = .ok (.bipush 10, 2) := by decide +kernel
theorem dX2_init_7 : decode cX2_init 7 = .ok (.newarray .int, 2) := by decide +kernel
theorem dX2_init_9 : decode cX2_init 9 = .ok (.putfield 9, 3) := by decide +kernel
theorem dX2_init_12 : decode cX2_init 12 = .ok (.aload_n 0, 1) := by decide +kernel
theorem dX2_init_13 : decode cX2_init 13 = .ok (.iconst 3, 1) := by decide +kernel
theorem dX2_init_14 : decode cX2_init 14 = .ok (.newarray .int, 2) := by decide +kernel
theorem dX2_init_16 : decode cX2_init 16 = .ok (.putfield 15, 3) := by decide +kernel
theorem dX2_init_19 : decode cX2_init 19 = .ok (.return_, 1) := by decide +kernel
set_option maxRecDepth 20000 in
theorem ggX2_copyFrom_X9_copyAll : GoodIn wsX2_copyFrom wsX9_copyAll := goodIn_r _ [7, 8, 9, 10, 11, 12, 13, 14, 15] (by decide +kernel) (by decide +kernel)
set_option maxRecDepth 20000 in
theorem gX2_copyFrom_X9_copyAll_n18 : GoodIn wsX2_copyFrom (wsX9_copyAll) := ggX2_copyFrom_X9_copyAll
theorem dX2_copyFrom_0 : decode cX2_copyFrom 0 = .ok (.aload_n 1, 1) := by decide +kernel
theorem dX2_copyFrom_1 : decode cX2_copyFrom 1 = .ok (.getfield 9, 3) := by decide +kernel
theorem dX2_copyFrom_4 : decode cX2_copyFrom 4 = .ok (.aload_n 0, 1) := by decide +kernel
theorem dX2_copyFrom_5 : decode cX2_copyFrom 5 = .ok (.getfield 9, 3) := by decide +kernel
theorem dX2_copyFrom_8 : decode cX2_copyFrom 8 = .ok (.invokestatic 18, 3) := by decide +kernel
theorem dX2_copyFrom_11 : decode cX2_copyFrom 11 = .ok (.aload_n 1, 1) := by decide +kernel
theorem dX2_copyFrom_12 : decode cX2_copyFrom 12 = .ok (.getfield 15, 3) := by decide +kernel
theorem dX2_copyFrom_15 : decode cX2_copyFrom 15 = .ok (.aload_n 0, 1) := by decide +kernel
theorem dX2_copyFrom_16 : decode cX2_copyFrom 16 = .ok (.getfield 15, 3) := by decide +kernel
theorem dX2_copyFrom_19 : decode cX2_copyFrom 19 = .ok (.invokestatic 18, 3) := by decide +kernel
theorem dX2_copyFrom_22 : decode cX2_copyFrom 22 = .ok (.aload_n 0, 1) := by decide +kernel
theorem dX2_copyFrom_23 : decode cX2_copyFrom 23 = .ok (.aload_n 1, 1) := by decide +kernel
theorem dX2_copyFrom_24 : decode cX2_copyFrom 24 = .ok (.getfield 22, 3) := by decide +kernel
theorem dX2_copyFrom_27 : decode cX2_copyFrom 27 = .ok (.putfield 22, 3) := by decide +kernel
theorem dX2_copyFrom_30 : decode cX2_copyFrom 30 = .ok (.aload_n 0, 1) := by decide +kernel
theorem dX2_copyFrom_31 : decode cX2_copyFrom 31 = .ok (.aload_n 1, 1) := by decide +kernel
theorem dX2_copyFrom_32 : decode cX2_copyFrom 32 = .ok (.getfield 26, 3) := by decide +kernel
theorem dX2_copyFrom_35 : decode cX2_copyFrom 35 = .ok (.putfield 26, 3) := by decide +kernel
theorem dX2_copyFrom_38 : decode cX2_copyFrom 38 = .ok (.return_, 1) := by decide +kernel
set_option maxRecDepth 20000 in
theorem ggX2_bring_X9_within : GoodIn wsX2_bring wsX9_within := goodIn_r _ [4] (by decide +kernel) (by decide +kernel)
set_option maxRecDepth 20000 in
theorem gX2_bring_X9_within_n29 : GoodIn wsX2_bring (wsX9_within) := ggX2_bring_X9_within
theorem dX2_bring_0 : decode cX2_bring 0 = .ok (.iload_n 2, 1) := by decide +kernel
theorem dX2_bring_1 : decode cX2_bring 1 = .ok (.iconst 1, 1) := by decide +kernel
theorem dX2_bring_2 : decode cX2_bring 2 = .ok (.bipush 9, 2) := by decide +kernel
theorem dX2_bring_4 : decode cX2_bring 4 = .ok (.invokestatic 29, 3) := by decide +kernel
theorem dX2_bring_7 : decode cX2_bring 7 = .ok (.ifCond .eq 13, 3) := by decide +kernel
theorem dX2_bring_10 : decode cX2_bring 10 = .ok (.aload_n 0, 1) := by decide +kernel
theorem dX2_bring_11 : decode cX2_bring 11 = .ok (.getfield 9, 3) := by decide +kernel
theorem dX2_bring_14 : decode cX2_bring 14 = .ok (.iload_n 2, 1) := by decide +kernel
theorem dX2_bring_15 : decode cX2_bring 15 = .ok (.dup2, 1) := by decide +kernel
theorem dX2_bring_16 : decode cX2_bring 16 = .ok (.iaload, 1) := by decide +kernel
theorem dX2_bring_17 : decode cX2_bring 17 = .ok (.iload_n 1, 1) := by decide +kernel
theorem dX2_bring_18 : decode cX2_bring 18 = .ok (.iadd, 1) := by decide +kernel
theorem dX2_bring_19 : decode cX2_bring 19 = .ok (.iastore, 1) := by decide +kernel
theorem dX2_bring_20 : decode cX2_bring 20 = .ok (.return_, 1) := by decide +kernel
theorem dX2_uncrushedInAll_0 : decode cX2_uncrushedInAll 0 = .ok (.iconst 0, 1) := by decide +kernel
theorem dX2_uncrushedInAll_1 : decode cX2_uncrushedInAll 1 = .ok (.istore_n 1, 1) := by decide +kernel
theorem dX2_uncrushedInAll_2 : decode cX2_uncrushedInAll 2 = .ok (.iconst 1, 1) := by decide +kernel
theorem dX2_uncrushedInAll_3 : decode cX2_uncrushedInAll 3 = .ok (.istore_n 2, 1) := by decide +kernel
theorem dX2_uncrushedInAll_4 : decode cX2_uncrushedInAll 4 = .ok (.iload_n 2, 1) := by decide +kernel
theorem dX2_uncrushedInAll_5 : decode cX2_uncrushedInAll 5 = .ok (.bipush 9, 2) := by decide +kernel
theorem dX2_uncrushedInAll_7 : decode cX2_uncrushedInAll 7 = .ok (.if_icmp .gt 18, 3) := by decide +kernel
theorem dX2_uncrushedInAll_10 : decode cX2_uncrushedInAll 10 = .ok (.iload_n 1, 1) := by decide +kernel
theorem dX2_uncrushedInAll_11 : decode cX2_uncrushedInAll 11 = .ok (.aload_n 0, 1) := by decide +kernel
theorem dX2_uncrushedInAll_12 : decode cX2_uncrushedInAll 12 = .ok (.getfield 9, 3) := by decide +kernel
theorem dX2_uncrushedInAll_15 : decode cX2_uncrushedInAll 15 = .ok (.iload_n 2, 1) := by decide +kernel
theorem dX2_uncrushedInAll_16 : decode cX2_uncrushedInAll 16 = .ok (.iaload, 1) := by decide +kernel
theorem dX2_uncrushedInAll_17 : decode cX2_uncrushedInAll 17 = .ok (.iadd, 1) := by decide +kernel
theorem dX2_uncrushedInAll_18 : decode cX2_uncrushedInAll 18 = .ok (.istore_n 1, 1) := by decide +kernel
theorem dX2_uncrushedInAll_19 : decode cX2_uncrushedInAll 19 = .ok (.iinc 2 1, 3) := by decide +kernel
theorem dX2_uncrushedInAll_22 : decode cX2_uncrushedInAll 22 = .ok (.goto (-18), 3) := by decide +kernel
theorem dX2_uncrushedInAll_25 : decode cX2_uncrushedInAll 25 = .ok (.iload_n 1, 1) := by decide +kernel
theorem dX2_uncrushedInAll_26 : decode cX2_uncrushedInAll 26 = .ok (.ireturn, 1) := by decide +kernel
theorem dX2_tonnesInAnHour_0 : decode cX2_tonnesInAnHour 0 = .ok (.iconst 1, 1) := by decide +kernel
theorem dX2_tonnesInAnHour_1 : decode cX2_tonnesInAnHour 1 = .ok (.iload_n 1, 1) := by decide +kernel
theorem dX2_tonnesInAnHour_2 : decode cX2_tonnesInAnHour 2 = .ok (.aload_n 0, 1) := by decide +kernel
theorem dX2_tonnesInAnHour_3 : decode cX2_tonnesInAnHour 3 = .ok (.getfield 22, 3) := by decide +kernel
theorem dX2_tonnesInAnHour_6 : decode cX2_tonnesInAnHour 6 = .ok (.sipush 1000, 3) := by decide +kernel
theorem dX2_tonnesInAnHour_9 : decode cX2_tonnesInAnHour 9 = .ok (.idiv, 1) := by decide +kernel
theorem dX2_tonnesInAnHour_10 : decode cX2_tonnesInAnHour 10 = .ok (.isub, 1) := by decide +kernel
theorem dX2_tonnesInAnHour_11 : decode cX2_tonnesInAnHour 11 = .ok (.invokestatic 33, 3) := by decide +kernel
theorem dX2_tonnesInAnHour_14 : decode cX2_tonnesInAnHour 14 = .ok (.ireturn, 1) := by decide +kernel
theorem dX2_becomeAsNew_0 : decode cX2_becomeAsNew 0 = .ok (.aload_n 0, 1) := by decide +kernel
theorem dX2_becomeAsNew_1 : decode cX2_becomeAsNew 1 = .ok (.getfield 22, 3) := by decide +kernel
theorem dX2_becomeAsNew_4 : decode cX2_becomeAsNew 4 = .ok (.istore_n 1, 1) := by decide +kernel
theorem dX2_becomeAsNew_5 : decode cX2_becomeAsNew 5 = .ok (.aload_n 0, 1) := by decide +kernel
theorem dX2_becomeAsNew_6 : decode cX2_becomeAsNew 6 = .ok (.iconst 0, 1) := by decide +kernel
theorem dX2_becomeAsNew_7 : decode cX2_becomeAsNew 7 = .ok (.putfield 22, 3) := by decide +kernel
theorem dX2_becomeAsNew_10 : decode cX2_becomeAsNew 10 = .ok (.iload_n 1, 1) := by decide +kernel
theorem dX2_becomeAsNew_11 : decode cX2_becomeAsNew 11 = .ok (.ireturn, 1) := by decide +kernel
set_option maxRecDepth 20000 in
theorem ggX2_crushForAnHour_X2_tonnesInAnHour : GoodIn wsX2_crushForAnHour wsX2_tonnesInAnHour := goodIn_r _ [10, 11, 12, 13, 4, 14, 24, 25, 26, 27] (by decide +kernel) (by decide +kernel)
set_option maxRecDepth 20000 in
theorem gX2_crushForAnHour_X2_tonnesInAnHour : GoodIn wsX2_crushForAnHour (wsV RX2 39 RX2 yX2_tonnesInAnHour wsX2_tonnesInAnHour) := goodIn_app (goodIn_of _ (by decide +kernel)) ggX2_crushForAnHour_X2_tonnesInAnHour
set_option maxRecDepth 20000 in
theorem ggX2_crushForAnHour_X2_crush : GoodIn wsX2_crushForAnHour wsX2_crush := goodIn_r _ [18, 1, 19, 11, 20, 21, 22, 23, 24, 25, 26, 27] (by decide +kernel) (by decide +kernel)
set_option maxRecDepth 20000 in
theorem gX2_crushForAnHour_X2_crush : GoodIn wsX2_crushForAnHour (wsV RX2 46 RX2 yX2_crush wsX2_crush) := goodIn_app (goodIn_of _ (by decide +kernel)) ggX2_crushForAnHour_X2_crush
theorem dX2_crushForAnHour_0 : decode cX2_crushForAnHour 0 = .ok (.aload_n 0, 1) := by decide +kernel
theorem dX2_crushForAnHour_1 : decode cX2_crushForAnHour 1 = .ok (.iload_n 2, 1) := by decide +kernel
theorem dX2_crushForAnHour_2 : decode cX2_crushForAnHour 2 = .ok (.invokevirtual 39, 3) := by decide +kernel
theorem dX2_crushForAnHour_5 : decode cX2_crushForAnHour 5 = .ok (.istore_n 3, 1) := by decide +kernel
theorem dX2_crushForAnHour_6 : decode cX2_crushForAnHour 6 = .ok (.iconst 1, 1) := by decide +kernel
theorem dX2_crushForAnHour_7 : decode cX2_crushForAnHour 7 = .ok (.istore 4, 2) := by decide +kernel
theorem dX2_crushForAnHour_9 : decode cX2_crushForAnHour 9 = .ok (.iload 4, 2) := by decide +kernel
theorem dX2_crushForAnHour_11 : decode cX2_crushForAnHour 11 = .ok (.bipush 9, 2) := by decide +kernel
theorem dX2_crushForAnHour_13 : decode cX2_crushForAnHour 13 = .ok (.if_icmp .gt 40, 3) := by decide +kernel
theorem dX2_crushForAnHour_16 : decode cX2_crushForAnHour 16 = .ok (.iload_n 3, 1) := by decide +kernel
theorem dX2_crushForAnHour_17 : decode cX2_crushForAnHour 17 = .ok (.ifCond .le 36, 3) := by decide +kernel
theorem dX2_crushForAnHour_20 : decode cX2_crushForAnHour 20 = .ok (.iload_n 3, 1) := by decide +kernel
theorem dX2_crushForAnHour_21 : decode cX2_crushForAnHour 21 = .ok (.aload_n 0, 1) := by decide +kernel
theorem dX2_crushForAnHour_22 : decode cX2_crushForAnHour 22 = .ok (.getfield 9, 3) := by decide +kernel
theorem dX2_crushForAnHour_25 : decode cX2_crushForAnHour 25 = .ok (.iload 4, 2) := by decide +kernel
theorem dX2_crushForAnHour_27 : decode cX2_crushForAnHour 27 = .ok (.iaload, 1) := by decide +kernel
theorem dX2_crushForAnHour_28 : decode cX2_crushForAnHour 28 = .ok (.invokestatic 43, 3) := by decide +kernel
theorem dX2_crushForAnHour_31 : decode cX2_crushForAnHour 31 = .ok (.istore 5, 2) := by decide +kernel
theorem dX2_crushForAnHour_33 : decode cX2_crushForAnHour 33 = .ok (.iload_n 3, 1) := by decide +kernel
theorem dX2_crushForAnHour_34 : decode cX2_crushForAnHour 34 = .ok (.iload 5, 2) := by decide +kernel
theorem dX2_crushForAnHour_36 : decode cX2_crushForAnHour 36 = .ok (.isub, 1) := by decide +kernel
theorem dX2_crushForAnHour_37 : decode cX2_crushForAnHour 37 = .ok (.istore_n 3, 1) := by decide +kernel
theorem dX2_crushForAnHour_38 : decode cX2_crushForAnHour 38 = .ok (.aload_n 0, 1) := by decide +kernel
theorem dX2_crushForAnHour_39 : decode cX2_crushForAnHour 39 = .ok (.iload 5, 2) := by decide +kernel
theorem dX2_crushForAnHour_41 : decode cX2_crushForAnHour 41 = .ok (.iload 4, 2) := by decide +kernel
theorem dX2_crushForAnHour_43 : decode cX2_crushForAnHour 43 = .ok (.iload_n 1, 1) := by decide +kernel
theorem dX2_crushForAnHour_44 : decode cX2_crushForAnHour 44 = .ok (.invokevirtual 46, 3) := by decide +kernel
theorem dX2_crushForAnHour_47 : decode cX2_crushForAnHour 47 = .ok (.iinc 4 1, 3) := by decide +kernel
theorem dX2_crushForAnHour_50 : decode cX2_crushForAnHour 50 = .ok (.goto (-41), 3) := by decide +kernel
theorem dX2_crushForAnHour_53 : decode cX2_crushForAnHour 53 = .ok (.return_, 1) := by decide +kernel
set_option maxRecDepth 20000 in
theorem ggX2_crush_X9_within : GoodIn wsX2_crush wsX9_within := goodIn_r _ [7] (by decide +kernel) (by decide +kernel)
set_option maxRecDepth 20000 in
theorem gX2_crush_X9_within_n29 : GoodIn wsX2_crush (wsX9_within) := ggX2_crush_X9_within
theorem dX2_crush_0 : decode cX2_crush 0 = .ok (.iload_n 2, 1) := by decide +kernel
theorem dX2_crush_1 : decode cX2_crush 1 = .ok (.iconst 1, 1) := by decide +kernel
theorem dX2_crush_2 : decode cX2_crush 2 = .ok (.bipush 9, 2) := by decide +kernel
theorem dX2_crush_4 : decode cX2_crush 4 = .ok (.invokestatic 29, 3) := by decide +kernel
theorem dX2_crush_7 : decode cX2_crush 7 = .ok (.ifCond .ne 4, 3) := by decide +kernel
theorem dX2_crush_10 : decode cX2_crush 10 = .ok (.return_, 1) := by decide +kernel
theorem dX2_crush_11 : decode cX2_crush 11 = .ok (.iload_n 1, 1) := by decide +kernel
theorem dX2_crush_12 : decode cX2_crush 12 = .ok (.bipush 10, 2) := by decide +kernel
theorem dX2_crush_14 : decode cX2_crush 14 = .ok (.iload_n 3, 1) := by decide +kernel
theorem dX2_crush_15 : decode cX2_crush 15 = .ok (.isub, 1) := by decide +kernel
theorem dX2_crush_16 : decode cX2_crush 16 = .ok (.imul, 1) := by decide +kernel
theorem dX2_crush_17 : decode cX2_crush 17 = .ok (.bipush 10, 2) := by decide +kernel
theorem dX2_crush_19 : decode cX2_crush 19 = .ok (.iload_n 2, 1) := by decide +kernel
theorem dX2_crush_20 : decode cX2_crush 20 = .ok (.isub, 1) := by decide +kernel
theorem dX2_crush_21 : decode cX2_crush 21 = .ok (.imul, 1) := by decide +kernel
theorem dX2_crush_22 : decode cX2_crush 22 = .ok (.bipush 100, 2) := by decide +kernel
theorem dX2_crush_24 : decode cX2_crush 24 = .ok (.idiv, 1) := by decide +kernel
theorem dX2_crush_25 : decode cX2_crush 25 = .ok (.istore 4, 2) := by decide +kernel
theorem dX2_crush_27 : decode cX2_crush 27 = .ok (.iload_n 1, 1) := by decide +kernel
theorem dX2_crush_28 : decode cX2_crush 28 = .ok (.iload_n 3, 1) := by decide +kernel
theorem dX2_crush_29 : decode cX2_crush 29 = .ok (.imul, 1) := by decide +kernel
theorem dX2_crush_30 : decode cX2_crush 30 = .ok (.iload_n 2, 1) := by decide +kernel
theorem dX2_crush_31 : decode cX2_crush 31 = .ok (.imul, 1) := by decide +kernel
theorem dX2_crush_32 : decode cX2_crush 32 = .ok (.bipush 100, 2) := by decide +kernel
theorem dX2_crush_34 : decode cX2_crush 34 = .ok (.idiv, 1) := by decide +kernel
theorem dX2_crush_35 : decode cX2_crush 35 = .ok (.istore 5, 2) := by decide +kernel
theorem dX2_crush_37 : decode cX2_crush 37 = .ok (.aload_n 0, 1) := by decide +kernel
theorem dX2_crush_38 : decode cX2_crush 38 = .ok (.getfield 9, 3) := by decide +kernel
theorem dX2_crush_41 : decode cX2_crush 41 = .ok (.iload_n 2, 1) := by decide +kernel
theorem dX2_crush_42 : decode cX2_crush 42 = .ok (.dup2, 1) := by decide +kernel
theorem dX2_crush_43 : decode cX2_crush 43 = .ok (.iaload, 1) := by decide +kernel
theorem dX2_crush_44 : decode cX2_crush 44 = .ok (.iload_n 1, 1) := by decide +kernel
theorem dX2_crush_45 : decode cX2_crush 45 = .ok (.isub, 1) := by decide +kernel
theorem dX2_crush_46 : decode cX2_crush 46 = .ok (.iastore, 1) := by decide +kernel
theorem dX2_crush_47 : decode cX2_crush 47 = .ok (.aload_n 0, 1) := by decide +kernel
theorem dX2_crush_48 : decode cX2_crush 48 = .ok (.getfield 15, 3) := by decide +kernel
theorem dX2_crush_51 : decode cX2_crush 51 = .ok (.iconst 0, 1) := by decide +kernel
theorem dX2_crush_52 : decode cX2_crush 52 = .ok (.dup2, 1) := by decide +kernel
theorem dX2_crush_53 : decode cX2_crush 53 = .ok (.iaload, 1) := by decide +kernel
theorem dX2_crush_54 : decode cX2_crush 54 = .ok (.iload 4, 2) := by decide +kernel
theorem dX2_crush_56 : decode cX2_crush 56 = .ok (.iadd, 1) := by decide +kernel
theorem dX2_crush_57 : decode cX2_crush 57 = .ok (.iastore, 1) := by decide +kernel
theorem dX2_crush_58 : decode cX2_crush 58 = .ok (.aload_n 0, 1) := by decide +kernel
theorem dX2_crush_59 : decode cX2_crush 59 = .ok (.getfield 15, 3) := by decide +kernel
theorem dX2_crush_62 : decode cX2_crush 62 = .ok (.iconst 1, 1) := by decide +kernel
theorem dX2_crush_63 : decode cX2_crush 63 = .ok (.dup2, 1) := by decide +kernel
theorem dX2_crush_64 : decode cX2_crush 64 = .ok (.iaload, 1) := by decide +kernel
theorem dX2_crush_65 : decode cX2_crush 65 = .ok (.iload_n 1, 1) := by decide +kernel
theorem dX2_crush_66 : decode cX2_crush 66 = .ok (.iload 4, 2) := by decide +kernel
theorem dX2_crush_68 : decode cX2_crush 68 = .ok (.isub, 1) := by decide +kernel
theorem dX2_crush_69 : decode cX2_crush 69 = .ok (.iload 5, 2) := by decide +kernel
theorem dX2_crush_71 : decode cX2_crush 71 = .ok (.isub, 1) := by decide +kernel
theorem dX2_crush_72 : decode cX2_crush 72 = .ok (.iadd, 1) := by decide +kernel
theorem dX2_crush_73 : decode cX2_crush 73 = .ok (.iastore, 1) := by decide +kernel
theorem dX2_crush_74 : decode cX2_crush 74 = .ok (.aload_n 0, 1) := by decide +kernel
theorem dX2_crush_75 : decode cX2_crush 75 = .ok (.getfield 15, 3) := by decide +kernel
theorem dX2_crush_78 : decode cX2_crush 78 = .ok (.iconst 2, 1) := by decide +kernel
theorem dX2_crush_79 : decode cX2_crush 79 = .ok (.dup2, 1) := by decide +kernel
theorem dX2_crush_80 : decode cX2_crush 80 = .ok (.iaload, 1) := by decide +kernel
theorem dX2_crush_81 : decode cX2_crush 81 = .ok (.iload 5, 2) := by decide +kernel
theorem dX2_crush_83 : decode cX2_crush 83 = .ok (.iadd, 1) := by decide +kernel
theorem dX2_crush_84 : decode cX2_crush 84 = .ok (.iastore, 1) := by decide +kernel
theorem dX2_crush_85 : decode cX2_crush 85 = .ok (.aload_n 0, 1) := by decide +kernel
theorem dX2_crush_86 : decode cX2_crush 86 = .ok (.dup, 1) := by decide +kernel
theorem dX2_crush_87 : decode cX2_crush 87 = .ok (.getfield 22, 3) := by decide +kernel
theorem dX2_crush_90 : decode cX2_crush 90 = .ok (.iload_n 1, 1) := by decide +kernel
theorem dX2_crush_91 : decode cX2_crush 91 = .ok (.iload_n 2, 1) := by decide +kernel
theorem dX2_crush_92 : decode cX2_crush 92 = .ok (.imul, 1) := by decide +kernel
theorem dX2_crush_93 : decode cX2_crush 93 = .ok (.iadd, 1) := by decide +kernel
theorem dX2_crush_94 : decode cX2_crush 94 = .ok (.putfield 22, 3) := by decide +kernel
theorem dX2_crush_97 : decode cX2_crush 97 = .ok (.aload_n 0, 1) := by decide +kernel
theorem dX2_crush_98 : decode cX2_crush 98 = .ok (.dup, 1) := by decide +kernel
theorem dX2_crush_99 : decode cX2_crush 99 = .ok (.getfield 26, 3) := by decide +kernel
theorem dX2_crush_102 : decode cX2_crush 102 = .ok (.iload_n 1, 1) := by decide +kernel
theorem dX2_crush_103 : decode cX2_crush 103 = .ok (.iadd, 1) := by decide +kernel
theorem dX2_crush_104 : decode cX2_crush 104 = .ok (.putfield 26, 3) := by decide +kernel
theorem dX2_crush_107 : decode cX2_crush 107 = .ok (.return_, 1) := by decide +kernel
theorem dX2_takeOut_0 : decode cX2_takeOut 0 = .ok (.aload_n 0, 1) := by decide +kernel
theorem dX2_takeOut_1 : decode cX2_takeOut 1 = .ok (.getfield 15, 3) := by decide +kernel
theorem dX2_takeOut_4 : decode cX2_takeOut 4 = .ok (.iconst 0, 1) := by decide +kernel
theorem dX2_takeOut_5 : decode cX2_takeOut 5 = .ok (.dup2, 1) := by decide +kernel
theorem dX2_takeOut_6 : decode cX2_takeOut 6 = .ok (.iaload, 1) := by decide +kernel
theorem dX2_takeOut_7 : decode cX2_takeOut 7 = .ok (.aload_n 1, 1) := by decide +kernel
theorem dX2_takeOut_8 : decode cX2_takeOut 8 = .ok (.getfield 50, 3) := by decide +kernel
theorem dX2_takeOut_11 : decode cX2_takeOut 11 = .ok (.isub, 1) := by decide +kernel
theorem dX2_takeOut_12 : decode cX2_takeOut 12 = .ok (.iastore, 1) := by decide +kernel
theorem dX2_takeOut_13 : decode cX2_takeOut 13 = .ok (.aload_n 0, 1) := by decide +kernel
theorem dX2_takeOut_14 : decode cX2_takeOut 14 = .ok (.getfield 15, 3) := by decide +kernel
theorem dX2_takeOut_17 : decode cX2_takeOut 17 = .ok (.iconst 1, 1) := by decide +kernel
theorem dX2_takeOut_18 : decode cX2_takeOut 18 = .ok (.dup2, 1) := by decide +kernel
theorem dX2_takeOut_19 : decode cX2_takeOut 19 = .ok (.iaload, 1) := by decide +kernel
theorem dX2_takeOut_20 : decode cX2_takeOut 20 = .ok (.aload_n 1, 1) := by decide +kernel
theorem dX2_takeOut_21 : decode cX2_takeOut 21 = .ok (.getfield 55, 3) := by decide +kernel
theorem dX2_takeOut_24 : decode cX2_takeOut 24 = .ok (.aload_n 1, 1) := by decide +kernel
theorem dX2_takeOut_25 : decode cX2_takeOut 25 = .ok (.getfield 50, 3) := by decide +kernel
theorem dX2_takeOut_28 : decode cX2_takeOut 28 = .ok (.isub, 1) := by decide +kernel
theorem dX2_takeOut_29 : decode cX2_takeOut 29 = .ok (.aload_n 1, 1) := by decide +kernel
theorem dX2_takeOut_30 : decode cX2_takeOut 30 = .ok (.getfield 58, 3) := by decide +kernel
theorem dX2_takeOut_33 : decode cX2_takeOut 33 = .ok (.isub, 1) := by decide +kernel
theorem dX2_takeOut_34 : decode cX2_takeOut 34 = .ok (.isub, 1) := by decide +kernel
theorem dX2_takeOut_35 : decode cX2_takeOut 35 = .ok (.iastore, 1) := by decide +kernel
theorem dX2_takeOut_36 : decode cX2_takeOut 36 = .ok (.aload_n 0, 1) := by decide +kernel
theorem dX2_takeOut_37 : decode cX2_takeOut 37 = .ok (.getfield 15, 3) := by decide +kernel
theorem dX2_takeOut_40 : decode cX2_takeOut 40 = .ok (.iconst 2, 1) := by decide +kernel
theorem dX2_takeOut_41 : decode cX2_takeOut 41 = .ok (.dup2, 1) := by decide +kernel
theorem dX2_takeOut_42 : decode cX2_takeOut 42 = .ok (.iaload, 1) := by decide +kernel
theorem dX2_takeOut_43 : decode cX2_takeOut 43 = .ok (.aload_n 1, 1) := by decide +kernel
theorem dX2_takeOut_44 : decode cX2_takeOut 44 = .ok (.getfield 58, 3) := by decide +kernel
theorem dX2_takeOut_47 : decode cX2_takeOut 47 = .ok (.isub, 1) := by decide +kernel
theorem dX2_takeOut_48 : decode cX2_takeOut 48 = .ok (.iastore, 1) := by decide +kernel
theorem dX2_takeOut_49 : decode cX2_takeOut 49 = .ok (.return_, 1) := by decide +kernel
theorem dX3_init_0 : decode cX3_init 0 = .ok (.aload_n 0, 1) := by decide +kernel
theorem dX3_init_1 : decode cX3_init 1 = .ok (.invokespecial 3, 3) := by decide +kernel
theorem dX3_init_4 : decode cX3_init 4 = .ok (.aload_n 0, 1) := by decide +kernel
theorem dX3_init_5 : decode cX3_init 5 = .ok (.bipush 8, 2) := by decide +kernel
theorem dX3_init_7 : decode cX3_init 7 = .ok (.newarray .int, 2) := by decide +kernel
theorem dX3_init_9 : decode cX3_init 9 = .ok (.putfield 9, 3) := by decide +kernel
theorem dX3_init_12 : decode cX3_init 12 = .ok (.aload_n 0, 1) := by decide +kernel
theorem dX3_init_13 : decode cX3_init 13 = .ok (.bipush 8, 2) := by decide +kernel
theorem dX3_init_15 : decode cX3_init 15 = .ok (.newarray .int, 2) := by decide +kernel
theorem dX3_init_17 : decode cX3_init 17 = .ok (.putfield 15, 3) := by decide +kernel
theorem dX3_init_20 : decode cX3_init 20 = .ok (.aload_n 0, 1) := by decide +kernel
theorem dX3_init_21 : decode cX3_init 21 = .ok (.bipush 8, 2) := by decide +kernel
theorem dX3_init_23 : decode cX3_init 23 = .ok (.newarray .int, 2) := by decide +kernel
theorem dX3_init_25 : decode cX3_init 25 = .ok (.putfield 18, 3) := by decide +kernel
theorem dX3_init_28 : decode cX3_init 28 = .ok (.aload_n 0, 1) := by decide +kernel
theorem dX3_init_29 : decode cX3_init 29 = .ok (.bipush 8, 2) := by decide +kernel
theorem dX3_init_31 : decode cX3_init 31 = .ok (.newarray .int, 2) := by decide +kernel
theorem dX3_init_33 : decode cX3_init 33 = .ok (.putfield 21, 3) := by decide +kernel
theorem dX3_init_36 : decode cX3_init 36 = .ok (.return_, 1) := by decide +kernel
set_option maxRecDepth 20000 in
theorem ggX3_copyFrom_X9_copyAll : GoodIn wsX3_copyFrom wsX9_copyAll := goodIn_r _ [8, 9, 10, 11, 12, 13, 14, 15, 16] (by decide +kernel) (by decide +kernel)
set_option maxRecDepth 20000 in
theorem gX3_copyFrom_X9_copyAll_n24 : GoodIn wsX3_copyFrom (wsX9_copyAll) := ggX3_copyFrom_X9_copyAll
theorem dX3_copyFrom_0 : decode cX3_copyFrom 0 = .ok (.aload_n 1, 1) := by decide +kernel
theorem dX3_copyFrom_1 : decode cX3_copyFrom 1 = .ok (.getfield 9, 3) := by decide +kernel
theorem dX3_copyFrom_4 : decode cX3_copyFrom 4 = .ok (.aload_n 0, 1) := by decide +kernel
theorem dX3_copyFrom_5 : decode cX3_copyFrom 5 = .ok (.getfield 9, 3) := by decide +kernel
theorem dX3_copyFrom_8 : decode cX3_copyFrom 8 = .ok (.invokestatic 24, 3) := by decide +kernel
theorem dX3_copyFrom_11 : decode cX3_copyFrom 11 = .ok (.aload_n 1, 1) := by decide +kernel
theorem dX3_copyFrom_12 : decode cX3_copyFrom 12 = .ok (.getfield 15, 3) := by decide +kernel
theorem dX3_copyFrom_15 : decode cX3_copyFrom 15 = .ok (.aload_n 0, 1) := by decide +kernel
theorem dX3_copyFrom_16 : decode cX3_copyFrom 16 = .ok (.getfield 15, 3) := by decide +kernel
theorem dX3_copyFrom_19 : decode cX3_copyFrom 19 = .ok (.invokestatic 24, 3) := by decide +kernel
theorem dX3_copyFrom_22 : decode cX3_copyFrom 22 = .ok (.aload_n 1, 1) := by decide +kernel
theorem dX3_copyFrom_23 : decode cX3_copyFrom 23 = .ok (.getfield 18, 3) := by decide +kernel
theorem dX3_copyFrom_26 : decode cX3_copyFrom 26 = .ok (.aload_n 0, 1) := by decide +kernel
theorem dX3_copyFrom_27 : decode cX3_copyFrom 27 = .ok (.getfield 18, 3) := by decide +kernel
theorem dX3_copyFrom_30 : decode cX3_copyFrom 30 = .ok (.invokestatic 24, 3) := by decide +kernel
theorem dX3_copyFrom_33 : decode cX3_copyFrom 33 = .ok (.aload_n 1, 1) := by decide +kernel
theorem dX3_copyFrom_34 : decode cX3_copyFrom 34 = .ok (.getfield 21, 3) := by decide +kernel
theorem dX3_copyFrom_37 : decode cX3_copyFrom 37 = .ok (.aload_n 0, 1) := by decide +kernel
theorem dX3_copyFrom_38 : decode cX3_copyFrom 38 = .ok (.getfield 21, 3) := by decide +kernel
theorem dX3_copyFrom_41 : decode cX3_copyFrom 41 = .ok (.invokestatic 24, 3) := by decide +kernel
theorem dX3_copyFrom_44 : decode cX3_copyFrom 44 = .ok (.aload_n 0, 1) := by decide +kernel
theorem dX3_copyFrom_45 : decode cX3_copyFrom 45 = .ok (.aload_n 1, 1) := by decide +kernel
theorem dX3_copyFrom_46 : decode cX3_copyFrom 46 = .ok (.getfield 28, 3) := by decide +kernel
theorem dX3_copyFrom_49 : decode cX3_copyFrom 49 = .ok (.putfield 28, 3) := by decide +kernel
theorem dX3_copyFrom_52 : decode cX3_copyFrom 52 = .ok (.return_, 1) := by decide +kernel
theorem dX3_has_0 : decode cX3_has 0 = .ok (.iload_n 1, 1) := by decide +kernel
theorem dX3_has_1 : decode cX3_has 1 = .ok (.ifCond .lt 21, 3) := by decide +kernel
theorem dX3_has_4 : decode cX3_has 4 = .ok (.iload_n 1, 1) := by decide +kernel
theorem dX3_has_5 : decode cX3_has 5 = .ok (.aload_n 0, 1) := by decide +kernel
theorem dX3_has_6 : decode cX3_has 6 = .ok (.getfield 28, 3) := by decide +kernel
theorem dX3_has_9 : decode cX3_has 9 = .ok (.if_icmp .ge 13, 3) := by decide +kernel
theorem dX3_has_12 : decode cX3_has 12 = .ok (.iload_n 1, 1) := by decide +kernel
theorem dX3_has_13 : decode cX3_has 13 = .ok (.bipush 8, 2) := by decide +kernel
theorem dX3_has_15 : decode cX3_has 15 = .ok (.if_icmp .ge 7, 3) := by decide +kernel
theorem dX3_has_18 : decode cX3_has 18 = .ok (.iconst 1, 1) := by decide +kernel
theorem dX3_has_19 : decode cX3_has 19 = .ok (.goto 4, 3) := by decide +kernel
theorem dX3_has_22 : decode cX3_has 22 = .ok (.iconst 0, 1) := by decide +kernel
theorem dX3_has_23 : decode cX3_has 23 = .ok (.ireturn, 1) := by decide +kernel
set_option maxRecDepth 20000 in
theorem ggX3_add_X9_within : GoodIn wsX3_add wsX9_within := goodIn_r _ [8] (by decide +kernel) (by decide +kernel)
set_option maxRecDepth 20000 in
theorem gX3_add_X9_within_n32 : GoodIn wsX3_add (wsX9_within) := ggX3_add_X9_within
theorem dX3_add_0 : decode cX3_add 0 = .ok (.iload_n 1, 1) := by decide +kernel
theorem dX3_add_1 : decode cX3_add 1 = .ok (.iconst 1, 1) := by decide +kernel
theorem dX3_add_2 : decode cX3_add 2 = .ok (.sipush 9999, 3) := by decide +kernel
theorem dX3_add_5 : decode cX3_add 5 = .ok (.invokestatic 32, 3) := by decide +kernel
theorem dX3_add_8 : decode cX3_add 8 = .ok (.ifCond .eq 23, 3) := by decide +kernel
theorem dX3_add_11 : decode cX3_add 11 = .ok (.iload_n 2, 1) := by decide +kernel
theorem dX3_add_12 : decode cX3_add 12 = .ok (.iconst 1, 1) := by decide +kernel
theorem dX3_add_13 : decode cX3_add 13 = .ok (.bipush 9, 2) := by decide +kernel
theorem dX3_add_15 : decode cX3_add 15 = .ok (.invokestatic 32, 3) := by decide +kernel
theorem dX3_add_18 : decode cX3_add 18 = .ok (.ifCond .eq 13, 3) := by decide +kernel
theorem dX3_add_21 : decode cX3_add 21 = .ok (.iload_n 3, 1) := by decide +kernel
theorem dX3_add_22 : decode cX3_add 22 = .ok (.iconst 1, 1) := by decide +kernel
theorem dX3_add_23 : decode cX3_add 23 = .ok (.bipush 12, 2) := by decide +kernel
theorem dX3_add_25 : decode cX3_add 25 = .ok (.invokestatic 32, 3) := by decide +kernel
theorem dX3_add_28 : decode cX3_add 28 = .ok (.ifCond .ne 6, 3) := by decide +kernel
theorem dX3_add_31 : decode cX3_add 31 = .ok (.bipush (-2), 2) := by decide +kernel
theorem dX3_add_33 : decode cX3_add 33 = .ok (.ireturn, 1) := by decide +kernel
theorem dX3_add_34 : decode cX3_add 34 = .ok (.aload_n 0, 1) := by decide +kernel
theorem dX3_add_35 : decode cX3_add 35 = .ok (.getfield 28, 3) := by decide +kernel
theorem dX3_add_38 : decode cX3_add 38 = .ok (.istore 4, 2) := by decide +kernel
theorem dX3_add_40 : decode cX3_add 40 = .ok (.iload 4, 2) := by decide +kernel
theorem dX3_add_42 : decode cX3_add 42 = .ok (.iconst 0, 1) := by decide +kernel
theorem dX3_add_43 : decode cX3_add 43 = .ok (.bipush 7, 2) := by decide +kernel
theorem dX3_add_45 : decode cX3_add 45 = .ok (.invokestatic 32, 3) := by decide +kernel
theorem dX3_add_48 : decode cX3_add 48 = .ok (.ifCond .ne 6, 3) := by decide +kernel
theorem dX3_add_51 : decode cX3_add 51 = .ok (.bipush (-4), 2) := by decide +kernel
theorem dX3_add_53 : decode cX3_add 53 = .ok (.ireturn, 1) := by decide +kernel
theorem dX3_add_54 : decode cX3_add 54 = .ok (.aload_n 0, 1) := by decide +kernel
theorem dX3_add_55 : decode cX3_add 55 = .ok (.getfield 9, 3) := by decide +kernel
theorem dX3_add_58 : decode cX3_add 58 = .ok (.iload 4, 2) := by decide +kernel
theorem dX3_add_60 : decode cX3_add 60 = .ok (.iload_n 1, 1) := by decide +kernel
theorem dX3_add_61 : decode cX3_add 61 = .ok (.iastore, 1) := by decide +kernel
theorem dX3_add_62 : decode cX3_add 62 = .ok (.aload_n 0, 1) := by decide +kernel
theorem dX3_add_63 : decode cX3_add 63 = .ok (.getfield 15, 3) := by decide +kernel
theorem dX3_add_66 : decode cX3_add 66 = .ok (.iload 4, 2) := by decide +kernel
theorem dX3_add_68 : decode cX3_add 68 = .ok (.iconst 0, 1) := by decide +kernel
theorem dX3_add_69 : decode cX3_add 69 = .ok (.iastore, 1) := by decide +kernel
theorem dX3_add_70 : decode cX3_add 70 = .ok (.aload_n 0, 1) := by decide +kernel
theorem dX3_add_71 : decode cX3_add 71 = .ok (.getfield 18, 3) := by decide +kernel
theorem dX3_add_74 : decode cX3_add 74 = .ok (.iload 4, 2) := by decide +kernel
theorem dX3_add_76 : decode cX3_add 76 = .ok (.iload_n 2, 1) := by decide +kernel
theorem dX3_add_77 : decode cX3_add 77 = .ok (.iastore, 1) := by decide +kernel
theorem dX3_add_78 : decode cX3_add 78 = .ok (.aload_n 0, 1) := by decide +kernel
theorem dX3_add_79 : decode cX3_add 79 = .ok (.getfield 21, 3) := by decide +kernel
theorem dX3_add_82 : decode cX3_add 82 = .ok (.iload 4, 2) := by decide +kernel
theorem dX3_add_84 : decode cX3_add 84 = .ok (.iload_n 3, 1) := by decide +kernel
theorem dX3_add_85 : decode cX3_add 85 = .ok (.iastore, 1) := by decide +kernel
theorem dX3_add_86 : decode cX3_add 86 = .ok (.aload_n 0, 1) := by decide +kernel
theorem dX3_add_87 : decode cX3_add 87 = .ok (.dup, 1) := by decide +kernel
theorem dX3_add_88 : decode cX3_add 88 = .ok (.getfield 28, 3) := by decide +kernel
theorem dX3_add_91 : decode cX3_add 91 = .ok (.iconst 1, 1) := by decide +kernel
theorem dX3_add_92 : decode cX3_add 92 = .ok (.iadd, 1) := by decide +kernel
theorem dX3_add_93 : decode cX3_add 93 = .ok (.putfield 28, 3) := by decide +kernel
theorem dX3_add_96 : decode cX3_add 96 = .ok (.iload 4, 2) := by decide +kernel
theorem dX3_add_98 : decode cX3_add 98 = .ok (.ireturn, 1) := by decide +kernel
theorem dX3_fullest_0 : decode cX3_fullest 0 = .ok (.bipush (-6), 2) := by decide +kernel
theorem dX3_fullest_2 : decode cX3_fullest 2 = .ok (.istore_n 1, 1) := by decide +kernel
theorem dX3_fullest_3 : decode cX3_fullest 3 = .ok (.iconst 0, 1) := by decide +kernel
theorem dX3_fullest_4 : decode cX3_fullest 4 = .ok (.istore_n 2, 1) := by decide +kernel
theorem dX3_fullest_5 : decode cX3_fullest 5 = .ok (.iconst 0, 1) := by decide +kernel
theorem dX3_fullest_6 : decode cX3_fullest 6 = .ok (.istore_n 3, 1) := by decide +kernel
theorem dX3_fullest_7 : decode cX3_fullest 7 = .ok (.iload_n 3, 1) := by decide +kernel
theorem dX3_fullest_8 : decode cX3_fullest 8 = .ok (.aload_n 0, 1) := by decide +kernel
theorem dX3_fullest_9 : decode cX3_fullest 9 = .ok (.getfield 28, 3) := by decide +kernel
theorem dX3_fullest_12 : decode cX3_fullest 12 = .ok (.if_icmp .ge 34, 3) := by decide +kernel
theorem dX3_fullest_15 : decode cX3_fullest 15 = .ok (.iload_n 3, 1) := by decide +kernel
theorem dX3_fullest_16 : decode cX3_fullest 16 = .ok (.bipush 8, 2) := by decide +kernel
theorem dX3_fullest_18 : decode cX3_fullest 18 = .ok (.if_icmp .ge 28, 3) := by decide +kernel
theorem dX3_fullest_21 : decode cX3_fullest 21 = .ok (.aload_n 0, 1) := by decide +kernel
theorem dX3_fullest_22 : decode cX3_fullest 22 = .ok (.getfield 9, 3) := by decide +kernel
theorem dX3_fullest_25 : decode cX3_fullest 25 = .ok (.iload_n 3, 1) := by decide +kernel
theorem dX3_fullest_26 : decode cX3_fullest 26 = .ok (.iaload, 1) := by decide +kernel
theorem dX3_fullest_27 : decode cX3_fullest 27 = .ok (.iload_n 2, 1) := by decide +kernel
theorem dX3_fullest_28 : decode cX3_fullest 28 = .ok (.if_icmp .le 12, 3) := by decide +kernel
theorem dX3_fullest_31 : decode cX3_fullest 31 = .ok (.aload_n 0, 1) := by decide +kernel
theorem dX3_fullest_32 : decode cX3_fullest 32 = .ok (.getfield 9, 3) := by decide +kernel
theorem dX3_fullest_35 : decode cX3_fullest 35 = .ok (.iload_n 3, 1) := by decide +kernel
theorem dX3_fullest_36 : decode cX3_fullest 36 = .ok (.iaload, 1) := by decide +kernel
theorem dX3_fullest_37 : decode cX3_fullest 37 = .ok (.istore_n 2, 1) := by decide +kernel
theorem dX3_fullest_38 : decode cX3_fullest 38 = .ok (.iload_n 3, 1) := by decide +kernel
theorem dX3_fullest_39 : decode cX3_fullest 39 = .ok (.istore_n 1, 1) := by decide +kernel
theorem dX3_fullest_40 : decode cX3_fullest 40 = .ok (.iinc 3 1, 3) := by decide +kernel
theorem dX3_fullest_43 : decode cX3_fullest 43 = .ok (.goto (-36), 3) := by decide +kernel
theorem dX3_fullest_46 : decode cX3_fullest 46 = .ok (.iload_n 1, 1) := by decide +kernel
theorem dX3_fullest_47 : decode cX3_fullest 47 = .ok (.ireturn, 1) := by decide +kernel
set_option maxRecDepth 20000 in
theorem ggX3_take_X3_has : GoodIn wsX3_take wsX3_has := goodIn_r _ [11, 12, 13, 14, 15, 16, 17] (by decide +kernel) (by decide +kernel)
set_option maxRecDepth 20000 in
theorem gX3_take_X3_has : GoodIn wsX3_take (wsV RX3 36 RX3 yX3_has wsX3_has) := goodIn_app (goodIn_of _ (by decide +kernel)) ggX3_take_X3_has
theorem dX3_take_0 : decode cX3_take 0 = .ok (.aload_n 0, 1) := by decide +kernel
theorem dX3_take_1 : decode cX3_take 1 = .ok (.iload_n 1, 1) := by decide +kernel
theorem dX3_take_2 : decode cX3_take 2 = .ok (.invokevirtual 36, 3) := by decide +kernel
theorem dX3_take_5 : decode cX3_take 5 = .ok (.ifCond .ne 5, 3) := by decide +kernel
theorem dX3_take_8 : decode cX3_take 8 = .ok (.iconst 0, 1) := by decide +kernel
theorem dX3_take_9 : decode cX3_take 9 = .ok (.ireturn, 1) := by decide +kernel
theorem dX3_take_10 : decode cX3_take 10 = .ok (.iload_n 2, 1) := by decide +kernel
theorem dX3_take_11 : decode cX3_take 11 = .ok (.aload_n 0, 1) := by decide +kernel
theorem dX3_take_12 : decode cX3_take 12 = .ok (.getfield 9, 3) := by decide +kernel
theorem dX3_take_15 : decode cX3_take 15 = .ok (.iload_n 1, 1) := by decide +kernel
theorem dX3_take_16 : decode cX3_take 16 = .ok (.iaload, 1) := by decide +kernel
theorem dX3_take_17 : decode cX3_take 17 = .ok (.invokestatic 40, 3) := by decide +kernel
theorem dX3_take_20 : decode cX3_take 20 = .ok (.istore_n 3, 1) := by decide +kernel
theorem dX3_take_21 : decode cX3_take 21 = .ok (.aload_n 0, 1) := by decide +kernel
theorem dX3_take_22 : decode cX3_take 22 = .ok (.getfield 9, 3) := by decide +kernel
theorem dX3_take_25 : decode cX3_take 25 = .ok (.iload_n 1, 1) := by decide +kernel
theorem dX3_take_26 : decode cX3_take 26 = .ok (.dup2, 1) := by decide +kernel
theorem dX3_take_27 : decode cX3_take 27 = .ok (.iaload, 1) := by decide +kernel
theorem dX3_take_28 : decode cX3_take 28 = .ok (.iload_n 3, 1) := by decide +kernel
theorem dX3_take_29 : decode cX3_take 29 = .ok (.isub, 1) := by decide +kernel
theorem dX3_take_30 : decode cX3_take 30 = .ok (.iastore, 1) := by decide +kernel
theorem dX3_take_31 : decode cX3_take 31 = .ok (.aload_n 0, 1) := by decide +kernel
theorem dX3_take_32 : decode cX3_take 32 = .ok (.getfield 15, 3) := by decide +kernel
theorem dX3_take_35 : decode cX3_take 35 = .ok (.iload_n 1, 1) := by decide +kernel
theorem dX3_take_36 : decode cX3_take 36 = .ok (.dup2, 1) := by decide +kernel
theorem dX3_take_37 : decode cX3_take 37 = .ok (.iaload, 1) := by decide +kernel
theorem dX3_take_38 : decode cX3_take 38 = .ok (.iload_n 3, 1) := by decide +kernel
theorem dX3_take_39 : decode cX3_take 39 = .ok (.iadd, 1) := by decide +kernel
theorem dX3_take_40 : decode cX3_take 40 = .ok (.iastore, 1) := by decide +kernel
theorem dX3_take_41 : decode cX3_take 41 = .ok (.iload_n 3, 1) := by decide +kernel
theorem dX3_take_42 : decode cX3_take 42 = .ok (.ireturn, 1) := by decide +kernel
set_option maxRecDepth 20000 in
theorem ggX4_init_X6_init : GoodIn wsX4_init wsX6_init := goodIn_r _ [9, 10, 2, 3, 11, 12, 13, 14, 15, 16, 17, 18, 19, 20, 21, 22, 23, 24, 25, 26, 27, 28, 29, 30, 31, 32, 33, 34, 35, 36, 37, 38, 39, 40, 41, 42, 43, 44, 45, 46, 47, 48, 49, 50, 51, 52, 53, 54, 55, 56, 57, 58, 59, 60, 61, 62, 63, 64, 65, 66, 67, 68, 69, 73, 74, 75, 76, 77, 78, 79, 80, 81, 82, 83, 84, 85, 86, 87, 88, 89, 90, 91, 92, 93, 94, 95, 96, 97, 98, 99, 100, 101, 102, 103, 104, 105] (by decide +kernel) (by decide +kernel)
set_option maxRecDepth 20000 in
theorem gX4_init_X6_init_n17 : GoodIn wsX4_init (wsX6_init) := ggX4_init_X6_init
theorem dX4_init_0 : decode cX4_init 0 = .ok (.aload_n 0, 1) := by decide +kernel
theorem dX4_init_1 : decode cX4_init 1 = .ok (.invokespecial 3, 3) := by decide +kernel
theorem dX4_init_4 : decode cX4_init 4 = .ok (.aload_n 0, 1) := by decide +kernel
theorem dX4_init_5 : decode cX4_init 5 = .ok (.bipush 7, 2) := by decide +kernel
theorem dX4_init_7 : decode cX4_init 7 = .ok (.anewarray 11, 3) := by decide +kernel
theorem dX4_init_10 : decode cX4_init 10 = .ok (.putfield 13, 3) := by decide +kernel
theorem dX4_init_13 : decode cX4_init 13 = .ok (.iconst 0, 1) := by decide +kernel
theorem dX4_init_14 : decode cX4_init 14 = .ok (.istore_n 1, 1) := by decide +kernel
theorem dX4_init_15 : decode cX4_init 15 = .ok (.iload_n 1, 1) := by decide +kernel
theorem dX4_init_16 : decode cX4_init 16 = .ok (.bipush 7, 2) := by decide +kernel
theorem dX4_init_18 : decode cX4_init 18 = .ok (.if_icmp .ge 22, 3) := by decide +kernel
theorem dX4_init_21 : decode cX4_init 21 = .ok (.aload_n 0, 1) := by decide +kernel
theorem dX4_init_22 : decode cX4_init 22 = .ok (.getfield 13, 3) := by decide +kernel
theorem dX4_init_25 : decode cX4_init 25 = .ok (.iload_n 1, 1) := by decide +kernel
theorem dX4_init_26 : decode cX4_init 26 = .ok (.new 11, 3) := by decide +kernel
theorem dX4_init_29 : decode cX4_init 29 = .ok (.dup, 1) := by decide +kernel
theorem dX4_init_30 : decode cX4_init 30 = .ok (.invokespecial 17, 3) := by decide +kernel
theorem dX4_init_33 : decode cX4_init 33 = .ok (.aastore, 1) := by decide +kernel
theorem dX4_init_34 : decode cX4_init 34 = .ok (.iinc 1 1, 3) := by decide +kernel
theorem dX4_init_37 : decode cX4_init 37 = .ok (.goto (-22), 3) := by decide +kernel
theorem dX4_init_40 : decode cX4_init 40 = .ok (.return_, 1) := by decide +kernel
set_option maxRecDepth 20000 in
theorem ggX4_prepare_X9_within : GoodIn wsX4_prepare wsX9_within := goodIn_r _ [5] (by decide +kernel) (by decide +kernel)
set_option maxRecDepth 20000 in
theorem gX4_prepare_X9_within_n22 : GoodIn wsX4_prepare (wsX9_within) := ggX4_prepare_X9_within
set_option maxRecDepth 20000 in
theorem ggX4_prepare_X6_copyFrom : GoodIn wsX4_prepare wsX6_copyFrom := goodIn_r _ [10, 11, 12, 13, 14, 15, 16, 17, 18, 19, 20, 4, 21, 22, 23, 24, 25, 26, 27, 28, 29, 30, 31, 32, 33, 34, 35, 36, 37, 38, 39, 40, 41, 42, 43, 44, 45, 46, 47, 48, 49, 50, 51, 52, 53, 54, 55, 56, 57, 58, 59, 60, 61, 62, 63, 64, 68, 69, 70, 71, 72, 73, 74, 75, 76, 77, 78, 79, 80, 81, 82, 83, 84, 85, 86, 87, 88, 89, 90, 91, 92] (by decide +kernel) (by decide +kernel)
set_option maxRecDepth 20000 in
theorem gX4_prepare_X6_copyFrom : GoodIn wsX4_prepare (wsV RX4 26 RX6 yX6_copyFrom wsX6_copyFrom) := goodIn_app (goodIn_of _ (by decide +kernel)) ggX4_prepare_X6_copyFrom
theorem dX4_prepare_0 : decode cX4_prepare 0 = .ok (.aload_n 0, 1) := by decide +kernel
theorem dX4_prepare_1 : decode cX4_prepare 1 = .ok (.getfield 18, 3) := by decide +kernel
theorem dX4_prepare_4 : decode cX4_prepare 4 = .ok (.iconst 0, 1) := by decide +kernel
theorem dX4_prepare_5 : decode cX4_prepare 5 = .ok (.bipush 6, 2) := by decide +kernel
theorem dX4_prepare_7 : decode cX4_prepare 7 = .ok (.invokestatic 22, 3) := by decide +kernel
theorem dX4_prepare_10 : decode cX4_prepare 10 = .ok (.ifCond .eq 16, 3) := by decide +kernel
theorem dX4_prepare_13 : decode cX4_prepare 13 = .ok (.aload_n 0, 1) := by decide +kernel
theorem dX4_prepare_14 : decode cX4_prepare 14 = .ok (.getfield 13, 3) := by decide +kernel
theorem dX4_prepare_17 : decode cX4_prepare 17 = .ok (.aload_n 0, 1) := by decide +kernel
theorem dX4_prepare_18 : decode cX4_prepare 18 = .ok (.getfield 18, 3) := by decide +kernel
theorem dX4_prepare_21 : decode cX4_prepare 21 = .ok (.aaload, 1) := by decide +kernel
theorem dX4_prepare_22 : decode cX4_prepare 22 = .ok (.aload_n 1, 1) := by decide +kernel
theorem dX4_prepare_23 : decode cX4_prepare 23 = .ok (.invokevirtual 26, 3) := by decide +kernel
theorem dX4_prepare_26 : decode cX4_prepare 26 = .ok (.return_, 1) := by decide +kernel
theorem dX4_keepPrepared_0 : decode cX4_keepPrepared 0 = .ok (.aload_n 0, 1) := by decide +kernel
theorem dX4_keepPrepared_1 : decode cX4_keepPrepared 1 = .ok (.aload_n 0, 1) := by decide +kernel
theorem dX4_keepPrepared_2 : decode cX4_keepPrepared 2 = .ok (.getfield 18, 3) := by decide +kernel
theorem dX4_keepPrepared_5 : decode cX4_keepPrepared 5 = .ok (.iconst 1, 1) := by decide +kernel
theorem dX4_keepPrepared_6 : decode cX4_keepPrepared 6 = .ok (.iadd, 1) := by decide +kernel
theorem dX4_keepPrepared_7 : decode cX4_keepPrepared 7 = .ok (.bipush 7, 2) := by decide +kernel
theorem dX4_keepPrepared_9 : decode cX4_keepPrepared 9 = .ok (.irem, 1) := by decide +kernel
theorem dX4_keepPrepared_10 : decode cX4_keepPrepared 10 = .ok (.putfield 18, 3) := by decide +kernel
theorem dX4_keepPrepared_13 : decode cX4_keepPrepared 13 = .ok (.aload_n 0, 1) := by decide +kernel
theorem dX4_keepPrepared_14 : decode cX4_keepPrepared 14 = .ok (.aload_n 0, 1) := by decide +kernel
theorem dX4_keepPrepared_15 : decode cX4_keepPrepared 15 = .ok (.getfield 30, 3) := by decide +kernel
theorem dX4_keepPrepared_18 : decode cX4_keepPrepared 18 = .ok (.iconst 1, 1) := by decide +kernel
theorem dX4_keepPrepared_19 : decode cX4_keepPrepared 19 = .ok (.iadd, 1) := by decide +kernel
theorem dX4_keepPrepared_20 : decode cX4_keepPrepared 20 = .ok (.bipush 6, 2) := by decide +kernel
theorem dX4_keepPrepared_22 : decode cX4_keepPrepared 22 = .ok (.invokestatic 33, 3) := by decide +kernel
theorem dX4_keepPrepared_25 : decode cX4_keepPrepared 25 = .ok (.putfield 30, 3) := by decide +kernel
theorem dX4_keepPrepared_28 : decode cX4_keepPrepared 28 = .ok (.return_, 1) := by decide +kernel
set_option maxRecDepth 20000 in
theorem ggX4_takeLatest_X9_within : GoodIn wsX4_takeLatest wsX9_within := goodIn_r _ [6] (by decide +kernel) (by decide +kernel)
set_option maxRecDepth 20000 in
theorem gX4_takeLatest_X9_within_n22 : GoodIn wsX4_takeLatest (wsX9_within) := ggX4_takeLatest_X9_within
set_option maxRecDepth 20000 in
theorem ggX4_takeLatest_X6_copyFrom : GoodIn wsX4_takeLatest wsX6_copyFrom := goodIn_r _ [11, 12, 13, 14, 15, 16, 17, 18, 19, 20, 21, 5, 22, 23, 24, 25, 26, 27, 28, 29, 30, 31, 32, 33, 34, 35, 36, 37, 38, 39, 40, 41, 42, 43, 44, 45, 46, 47, 48, 49, 50, 51, 52, 53, 54, 55, 56, 57, 58, 59, 60, 61, 62, 63, 64, 65, 69, 70, 71, 72, 73, 74, 75, 76, 77, 78, 79, 80, 81, 82, 83, 84, 85, 86, 87, 88, 89, 90, 91, 92, 93] (by decide +kernel) (by decide +kernel)
set_option maxRecDepth 20000 in
theorem gX4_takeLatest_X6_copyFrom : GoodIn wsX4_takeLatest (wsV RX4 26 RX6 yX6_copyFrom wsX6_copyFrom) := goodIn_app (goodIn_of _ (by decide +kernel)) ggX4_takeLatest_X6_copyFrom
theorem dX4_takeLatest_0 : decode cX4_takeLatest 0 = .ok (.aload_n 0, 1) := by decide +kernel
theorem dX4_takeLatest_1 : decode cX4_takeLatest 1 = .ok (.aload_n 0, 1) := by decide +kernel
theorem dX4_takeLatest_2 : decode cX4_takeLatest 2 = .ok (.getfield 18, 3) := by decide +kernel
theorem dX4_takeLatest_5 : decode cX4_takeLatest 5 = .ok (.bipush 7, 2) := by decide +kernel
theorem dX4_takeLatest_7 : decode cX4_takeLatest 7 = .ok (.iadd, 1) := by decide +kernel
theorem dX4_takeLatest_8 : decode cX4_takeLatest 8 = .ok (.iconst 1, 1) := by decide +kernel
theorem dX4_takeLatest_9 : decode cX4_takeLatest 9 = .ok (.isub, 1) := by decide +kernel
theorem dX4_takeLatest_10 : decode cX4_takeLatest 10 = .ok (.bipush 7, 2) := by decide +kernel
theorem dX4_takeLatest_12 : decode cX4_takeLatest 12 = .ok (.irem, 1) := by decide +kernel
theorem dX4_takeLatest_13 : decode cX4_takeLatest 13 = .ok (.putfield 18, 3) := by decide +kernel
theorem dX4_takeLatest_16 : decode cX4_takeLatest 16 = .ok (.aload_n 0, 1) := by decide +kernel
theorem dX4_takeLatest_17 : decode cX4_takeLatest 17 = .ok (.dup, 1) := by decide +kernel
theorem dX4_takeLatest_18 : decode cX4_takeLatest 18 = .ok (.getfield 30, 3) := by decide +kernel
theorem dX4_takeLatest_21 : decode cX4_takeLatest 21 = .ok (.iconst 1, 1) := by decide +kernel
theorem dX4_takeLatest_22 : decode cX4_takeLatest 22 = .ok (.isub, 1) := by decide +kernel
theorem dX4_takeLatest_23 : decode cX4_takeLatest 23 = .ok (.putfield 30, 3) := by decide +kernel
theorem dX4_takeLatest_26 : decode cX4_takeLatest 26 = .ok (.aload_n 0, 1) := by decide +kernel
theorem dX4_takeLatest_27 : decode cX4_takeLatest 27 = .ok (.getfield 18, 3) := by decide +kernel
theorem dX4_takeLatest_30 : decode cX4_takeLatest 30 = .ok (.iconst 0, 1) := by decide +kernel
theorem dX4_takeLatest_31 : decode cX4_takeLatest 31 = .ok (.bipush 6, 2) := by decide +kernel
theorem dX4_takeLatest_33 : decode cX4_takeLatest 33 = .ok (.invokestatic 22, 3) := by decide +kernel
theorem dX4_takeLatest_36 : decode cX4_takeLatest 36 = .ok (.ifCond .eq 16, 3) := by decide +kernel
theorem dX4_takeLatest_39 : decode cX4_takeLatest 39 = .ok (.aload_n 1, 1) := by decide +kernel
theorem dX4_takeLatest_40 : decode cX4_takeLatest 40 = .ok (.aload_n 0, 1) := by decide +kernel
theorem dX4_takeLatest_41 : decode cX4_takeLatest 41 = .ok (.getfield 13, 3) := by decide +kernel
theorem dX4_takeLatest_44 : decode cX4_takeLatest 44 = .ok (.aload_n 0, 1) := by decide +kernel
theorem dX4_takeLatest_45 : decode cX4_takeLatest 45 = .ok (.getfield 18, 3) := by decide +kernel
theorem dX4_takeLatest_48 : decode cX4_takeLatest 48 = .ok (.aaload, 1) := by decide +kernel
theorem dX4_takeLatest_49 : decode cX4_takeLatest 49 = .ok (.invokevirtual 26, 3) := by decide +kernel
theorem dX4_takeLatest_52 : decode cX4_takeLatest 52 = .ok (.return_, 1) := by decide +kernel
theorem dX5_init_0 : decode cX5_init 0 = .ok (.aload_n 0, 1) := by decide +kernel
theorem dX5_init_1 : decode cX5_init 1 = .ok (.invokespecial 3, 3) := by decide +kernel
theorem dX5_init_4 : decode cX5_init 4 = .ok (.aload_n 0, 1) := by decide +kernel
theorem dX5_init_5 : decode cX5_init 5 = .ok (.bipush 80, 2) := by decide +kernel
theorem dX5_init_7 : decode cX5_init 7 = .ok (.newarray .char, 2) := by decide +kernel
theorem dX5_init_9 : decode cX5_init 9 = .ok (.putfield 9, 3) := by decide +kernel
theorem dX5_init_12 : decode cX5_init 12 = .ok (.aload_n 0, 1) := by decide +kernel
theorem dX5_init_13 : decode cX5_init 13 = .ok (.bipush 6, 2) := by decide +kernel
theorem dX5_init_15 : decode cX5_init 15 = .ok (.newarray .int, 2) := by decide +kernel
theorem dX5_init_17 : decode cX5_init 17 = .ok (.putfield 15, 3) := by decide +kernel
theorem dX5_init_20 : decode cX5_init 20 = .ok (.return_, 1) := by decide +kernel
set_option maxRecDepth 20000 in
theorem ggX5_charactersIn_X9_within : GoodIn wsX5_charactersIn wsX9_within := goodIn_r _ [4] (by decide +kernel) (by decide +kernel)
set_option maxRecDepth 20000 in
theorem gX5_charactersIn_X9_within_n21 : GoodIn wsX5_charactersIn (wsX9_within) := ggX5_charactersIn_X9_within
theorem dX5_charactersIn_0 : decode cX5_charactersIn 0 = .ok (.iconst 0, 1) := by decide +kernel
theorem dX5_charactersIn_1 : decode cX5_charactersIn 1 = .ok (.istore_n 2, 1) := by decide +kernel
theorem dX5_charactersIn_2 : decode cX5_charactersIn 2 = .ok (.lload_n 0, 1) := by decide +kernel
theorem dX5_charactersIn_3 : decode cX5_charactersIn 3 = .ok (.lstore_n 3, 1) := by decide +kernel
theorem dX5_charactersIn_4 : decode cX5_charactersIn 4 = .ok (.iload_n 2, 1) := by decide +kernel
theorem dX5_charactersIn_5 : decode cX5_charactersIn 5 = .ok (.bipush 8, 2) := by decide +kernel
theorem dX5_charactersIn_7 : decode cX5_charactersIn 7 = .ok (.if_icmp .ge 38, 3) := by decide +kernel
theorem dX5_charactersIn_10 : decode cX5_charactersIn 10 = .ok (.lload_n 3, 1) := by decide +kernel
theorem dX5_charactersIn_11 : decode cX5_charactersIn 11 = .ok (.lconst 0, 1) := by decide +kernel
theorem dX5_charactersIn_12 : decode cX5_charactersIn 12 = .ok (.lcmp, 1) := by decide +kernel
theorem dX5_charactersIn_13 : decode cX5_charactersIn 13 = .ok (.ifCond .eq 32, 3) := by decide +kernel
theorem dX5_charactersIn_16 : decode cX5_charactersIn 16 = .ok (.lload_n 3, 1) := by decide +kernel
theorem dX5_charactersIn_17 : decode cX5_charactersIn 17 = .ok (.ldc2_w 19, 3) := by decide +kernel
theorem dX5_charactersIn_20 : decode cX5_charactersIn 20 = .ok (.land, 1) := by decide +kernel
theorem dX5_charactersIn_21 : decode cX5_charactersIn 21 = .ok (.l2i, 1) := by decide +kernel
theorem dX5_charactersIn_22 : decode cX5_charactersIn 22 = .ok (.bipush 33, 2) := by decide +kernel
theorem dX5_charactersIn_24 : decode cX5_charactersIn 24 = .ok (.bipush 126, 2) := by decide +kernel
theorem dX5_charactersIn_26 : decode cX5_charactersIn 26 = .ok (.invokestatic 21, 3) := by decide +kernel
theorem dX5_charactersIn_29 : decode cX5_charactersIn 29 = .ok (.ifCond .ne 5, 3) := by decide +kernel
theorem dX5_charactersIn_32 : decode cX5_charactersIn 32 = .ok (.iconst 0, 1) := by decide +kernel
theorem dX5_charactersIn_33 : decode cX5_charactersIn 33 = .ok (.ireturn, 1) := by decide +kernel
theorem dX5_charactersIn_34 : decode cX5_charactersIn 34 = .ok (.lload_n 3, 1) := by decide +kernel
theorem dX5_charactersIn_35 : decode cX5_charactersIn 35 = .ok (.bipush 8, 2) := by decide +kernel
theorem dX5_charactersIn_37 : decode cX5_charactersIn 37 = .ok (.lushr, 1) := by decide +kernel
theorem dX5_charactersIn_38 : decode cX5_charactersIn 38 = .ok (.lstore_n 3, 1) := by decide +kernel
theorem dX5_charactersIn_39 : decode cX5_charactersIn 39 = .ok (.iinc 2 1, 3) := by decide +kernel
theorem dX5_charactersIn_42 : decode cX5_charactersIn 42 = .ok (.goto (-38), 3) := by decide +kernel
theorem dX5_charactersIn_45 : decode cX5_charactersIn 45 = .ok (.iload_n 2, 1) := by decide +kernel
theorem dX5_charactersIn_46 : decode cX5_charactersIn 46 = .ok (.ireturn, 1) := by decide +kernel
set_option maxRecDepth 20000 in
theorem ggX5_append_X9_within : GoodIn wsX5_append wsX9_within := goodIn_r _ [6] (by decide +kernel) (by decide +kernel)
set_option maxRecDepth 20000 in
theorem gX5_append_X9_within_n21 : GoodIn wsX5_append (wsX9_within) := ggX5_append_X9_within
theorem dX5_append_0 : decode cX5_append 0 = .ok (.iload_n 3, 1) := by decide +kernel
theorem dX5_append_1 : decode cX5_append 1 = .ok (.iconst 1, 1) := by decide +kernel
theorem dX5_append_2 : decode cX5_append 2 = .ok (.isub, 1) := by decide +kernel
theorem dX5_append_3 : decode cX5_append 3 = .ok (.istore 4, 2) := by decide +kernel
theorem dX5_append_5 : decode cX5_append 5 = .ok (.iload 4, 2) := by decide +kernel
theorem dX5_append_7 : decode cX5_append 7 = .ok (.ifCond .lt 54, 3) := by decide +kernel
theorem dX5_append_10 : decode cX5_append 10 = .ok (.aload_n 0, 1) := by decide +kernel
theorem dX5_append_11 : decode cX5_append 11 = .ok (.getfield 25, 3) := by decide +kernel
theorem dX5_append_14 : decode cX5_append 14 = .ok (.iconst 0, 1) := by decide +kernel
theorem dX5_append_15 : decode cX5_append 15 = .ok (.bipush 79, 2) := by decide +kernel
theorem dX5_append_17 : decode cX5_append 17 = .ok (.invokestatic 21, 3) := by decide +kernel
theorem dX5_append_20 : decode cX5_append 20 = .ok (.ifCond .eq 41, 3) := by decide +kernel
theorem dX5_append_23 : decode cX5_append 23 = .ok (.aload_n 0, 1) := by decide +kernel
theorem dX5_append_24 : decode cX5_append 24 = .ok (.getfield 9, 3) := by decide +kernel
theorem dX5_append_27 : decode cX5_append 27 = .ok (.aload_n 0, 1) := by decide +kernel
theorem dX5_append_28 : decode cX5_append 28 = .ok (.getfield 25, 3) := by decide +kernel
theorem dX5_append_31 : decode cX5_append 31 = .ok (.lload_n 1, 1) := by decide +kernel
theorem dX5_append_32 : decode cX5_append 32 = .ok (.bipush 8, 2) := by decide +kernel
theorem dX5_append_34 : decode cX5_append 34 = .ok (.iload 4, 2) := by decide +kernel
theorem dX5_append_36 : decode cX5_append 36 = .ok (.imul, 1) := by decide +kernel
theorem dX5_append_37 : decode cX5_append 37 = .ok (.lushr, 1) := by decide +kernel
theorem dX5_append_38 : decode cX5_append 38 = .ok (.ldc2_w 19, 3) := by decide +kernel
theorem dX5_append_41 : decode cX5_append 41 = .ok (.land, 1) := by decide +kernel
theorem dX5_append_42 : decode cX5_append 42 = .ok (.l2i, 1) := by decide +kernel
theorem dX5_append_43 : decode cX5_append 43 = .ok (.i2c, 1) := by decide +kernel
theorem dX5_append_44 : decode cX5_append 44 = .ok (.castore, 1) := by decide +kernel
theorem dX5_append_45 : decode cX5_append 45 = .ok (.aload_n 0, 1) := by decide +kernel
theorem dX5_append_46 : decode cX5_append 46 = .ok (.dup, 1) := by decide +kernel
theorem dX5_append_47 : decode cX5_append 47 = .ok (.getfield 25, 3) := by decide +kernel
theorem dX5_append_50 : decode cX5_append 50 = .ok (.iconst 1, 1) := by decide +kernel
theorem dX5_append_51 : decode cX5_append 51 = .ok (.iadd, 1) := by decide +kernel
theorem dX5_append_52 : decode cX5_append 52 = .ok (.putfield 25, 3) := by decide +kernel
theorem dX5_append_55 : decode cX5_append 55 = .ok (.iinc 4 (-1), 3) := by decide +kernel
theorem dX5_append_58 : decode cX5_append 58 = .ok (.goto (-53), 3) := by decide +kernel
theorem dX5_append_61 : decode cX5_append 61 = .ok (.return_, 1) := by decide +kernel
set_option maxRecDepth 20000 in
theorem ggX5_firstFault_X5_startReading : GoodIn wsX5_firstFault wsX5_startReading := goodIn_r _ [7, 1, 160, 161, 162, 163, 164, 165] (by decide +kernel) (by decide +kernel)
set_option maxRecDepth 20000 in
theorem gX5_firstFault_X5_startReading : GoodIn wsX5_firstFault (wsV RX5 29 RX5 yX5_startReading wsX5_startReading) := goodIn_app (goodIn_of _ (by decide +kernel)) ggX5_firstFault_X5_startReading
set_option maxRecDepth 20000 in
theorem ggX5_firstFault_X5_readOrder : GoodIn wsX5_firstFault wsX5_readOrder := goodIn_r _ [11, 12, 13, 1, 14, 15, 16, 6, 17, 2, 18, 19, 20, 21, 22, 23, 24, 25, 26, 27, 28, 29, 30, 31, 32, 33, 34, 35, 36, 37, 38, 39, 40, 41, 42, 43, 44, 45, 46, 47, 48, 49, 50, 51, 52, 53, 54, 55, 56, 57, 58, 59, 60, 61, 62, 63, 64, 65, 66, 67, 68, 69, 70, 71, 72, 73, 74, 75, 76, 77, 78, 79, 80, 81, 82, 83, 84, 85, 86, 87, 88, 89, 90, 91, 92, 93, 94, 95, 96, 97, 98, 99, 100, 101, 102, 103, 104, 105, 106, 107, 108, 109, 110, 111, 112, 113, 114, 115, 116, 117, 118, 119, 120, 121, 122, 123, 124, 125, 126, 127, 128, 129, 130, 131, 132, 133, 134, 135, 136, 137, 138, 139, 140, 141, 142, 143, 144, 145, 146, 147, 148, 149, 150, 151, 152, 153, 154, 155, 160, 161, 162, 163, 164, 165] (by decide +kernel) (by decide +kernel)
set_option maxRecDepth 20000 in
theorem gX5_firstFault_X5_readOrder : GoodIn wsX5_firstFault (wsV RX5 32 RX5 yX5_readOrder wsX5_readOrder) := goodIn_app (goodIn_of _ (by decide +kernel)) ggX5_firstFault_X5_readOrder
set_option maxRecDepth 20000 in
theorem ggX5_firstFault_X5_readNextOrder : GoodIn wsX5_firstFault wsX5_readNextOrder := goodIn_r _ [159, 1, 152, 153, 154, 6, 155, 14, 15, 16, 17, 2, 18, 8, 9, 10, 11, 12, 13, 19, 20, 21, 22, 23, 24, 25, 26, 27, 28, 29, 30, 31, 32, 33, 34, 35, 36, 37, 38, 39, 40, 41, 42, 43, 44, 45, 46, 47, 48, 49, 50, 51, 52, 53, 54, 55, 56, 57, 58, 59, 60, 61, 62, 63, 64, 65, 66, 67, 68, 69, 70, 71, 72, 73, 74, 75, 76, 77, 78, 79, 80, 81, 82, 83, 84, 85, 86, 87, 88, 89, 90, 91, 92, 93, 94, 95, 96, 97, 98, 99, 100, 101, 102, 103, 104, 105, 106, 107, 108, 109, 110, 111, 112, 113, 114, 115, 116, 117, 118, 119, 120, 121, 122, 123, 124, 125, 126, 127, 128, 129, 130, 131, 132, 133, 134, 135, 136, 137, 138, 139, 140, 141, 142, 143, 144, 145, 146, 147, 148, 149, 150, 151, 160, 161, 162, 163, 164, 165] (by decide +kernel) (by decide +kernel)
set_option maxRecDepth 20000 in
theorem gX5_firstFault_X5_readNextOrder : GoodIn wsX5_firstFault (wsV RX5 39 RX5 yX5_readNextOrder wsX5_readNextOrder) := goodIn_app (goodIn_of _ (by decide +kernel)) ggX5_firstFault_X5_readNextOrder
theorem dX5_firstFault_0 : decode cX5_firstFault 0 = .ok (.aload_n 0, 1) := by decide +kernel
theorem dX5_firstFault_1 : decode cX5_firstFault 1 = .ok (.invokevirtual 29, 3) := by decide +kernel
theorem dX5_firstFault_4 : decode cX5_firstFault 4 = .ok (.aload_n 0, 1) := by decide +kernel
theorem dX5_firstFault_5 : decode cX5_firstFault 5 = .ok (.invokevirtual 32, 3) := by decide +kernel
theorem dX5_firstFault_8 : decode cX5_firstFault 8 = .ok (.istore_n 1, 1) := by decide +kernel
theorem dX5_firstFault_9 : decode cX5_firstFault 9 = .ok (.iconst 1, 1) := by decide +kernel
theorem dX5_firstFault_10 : decode cX5_firstFault 10 = .ok (.istore_n 2, 1) := by decide +kernel
theorem dX5_firstFault_11 : decode cX5_firstFault 11 = .ok (.iload_n 2, 1) := by decide +kernel
theorem dX5_firstFault_12 : decode cX5_firstFault 12 = .ok (.bipush 80, 2) := by decide +kernel
theorem dX5_firstFault_14 : decode cX5_firstFault 14 = .ok (.if_icmp .ge 29, 3) := by decide +kernel
theorem dX5_firstFault_17 : decode cX5_firstFault 17 = .ok (.iload_n 1, 1) := by decide +kernel
theorem dX5_firstFault_18 : decode cX5_firstFault 18 = .ok (.ifCond .eq 25, 3) := by decide +kernel
theorem dX5_firstFault_21 : decode cX5_firstFault 21 = .ok (.aload_n 0, 1) := by decide +kernel
theorem dX5_firstFault_22 : decode cX5_firstFault 22 = .ok (.getfield 36, 3) := by decide +kernel
theorem dX5_firstFault_25 : decode cX5_firstFault 25 = .ok (.aload_n 0, 1) := by decide +kernel
theorem dX5_firstFault_26 : decode cX5_firstFault 26 = .ok (.getfield 25, 3) := by decide +kernel
theorem dX5_firstFault_29 : decode cX5_firstFault 29 = .ok (.if_icmp .ge 14, 3) := by decide +kernel
theorem dX5_firstFault_32 : decode cX5_firstFault 32 = .ok (.aload_n 0, 1) := by decide +kernel
theorem dX5_firstFault_33 : decode cX5_firstFault 33 = .ok (.invokevirtual 39, 3) := by decide +kernel
theorem dX5_firstFault_36 : decode cX5_firstFault 36 = .ok (.istore_n 1, 1) := by decide +kernel
theorem dX5_firstFault_37 : decode cX5_firstFault 37 = .ok (.iinc 2 1, 3) := by decide +kernel
theorem dX5_firstFault_40 : decode cX5_firstFault 40 = .ok (.goto (-29), 3) := by decide +kernel
theorem dX5_firstFault_43 : decode cX5_firstFault 43 = .ok (.iload_n 1, 1) := by decide +kernel
theorem dX5_firstFault_44 : decode cX5_firstFault 44 = .ok (.ifCond .eq 8, 3) := by decide +kernel
theorem dX5_firstFault_47 : decode cX5_firstFault 47 = .ok (.bipush (-6), 2) := by decide +kernel
theorem dX5_firstFault_49 : decode cX5_firstFault 49 = .ok (.goto 7, 3) := by decide +kernel
theorem dX5_firstFault_52 : decode cX5_firstFault 52 = .ok (.aload_n 0, 1) := by decide +kernel
theorem dX5_firstFault_53 : decode cX5_firstFault 53 = .ok (.getfield 36, 3) := by decide +kernel
theorem dX5_firstFault_56 : decode cX5_firstFault 56 = .ok (.ireturn, 1) := by decide +kernel
theorem dX5_startReading_0 : decode cX5_startReading 0 = .ok (.aload_n 0, 1) := by decide +kernel
theorem dX5_startReading_1 : decode cX5_startReading 1 = .ok (.iconst 0, 1) := by decide +kernel
theorem dX5_startReading_2 : decode cX5_startReading 2 = .ok (.putfield 36, 3) := by decide +kernel
theorem dX5_startReading_5 : decode cX5_startReading 5 = .ok (.return_, 1) := by decide +kernel
set_option maxRecDepth 20000 in
theorem ggX5_readNextOrder_X5_readSign : GoodIn wsX5_readNextOrder wsX5_readSign := goodIn_r _ [6, 1, 7, 8, 9, 5, 10, 11, 12, 152, 153, 154, 155, 156, 157] (by decide +kernel) (by decide +kernel)
set_option maxRecDepth 20000 in
theorem gX5_readNextOrder_X5_readSign : GoodIn wsX5_readNextOrder (wsV RX5 42 RX5 yX5_readSign wsX5_readSign) := goodIn_app (goodIn_of _ (by decide +kernel)) ggX5_readNextOrder_X5_readSign
set_option maxRecDepth 20000 in
theorem ggX5_readNextOrder_X5_readOrder : GoodIn wsX5_readNextOrder wsX5_readOrder := goodIn_r _ [16, 17, 18, 1, 7, 8, 9, 5, 10, 11, 12, 19, 20, 21, 22, 23, 24, 25, 26, 27, 28, 29, 30, 31, 32, 33, 34, 35, 36, 37, 38, 39, 40, 41, 42, 43, 44, 45, 46, 47, 48, 49, 50, 51, 52, 53, 54, 55, 56, 57, 58, 59, 60, 61, 62, 63, 64, 65, 66, 67, 68, 69, 70, 71, 72, 73, 74, 75, 76, 77, 78, 79, 80, 81, 82, 83, 84, 85, 86, 87, 88, 89, 90, 91, 92, 93, 94, 95, 96, 97, 98, 99, 100, 101, 102, 103, 104, 105, 106, 107, 108, 109, 110, 111, 112, 113, 114, 115, 116, 117, 118, 119, 120, 121, 122, 123, 124, 125, 126, 127, 128, 129, 130, 131, 132, 133, 134, 135, 136, 137, 138, 139, 140, 141, 142, 143, 144, 145, 146, 147, 148, 149, 150, 151, 2, 3, 4, 6, 152, 153, 154, 155, 156, 157] (by decide +kernel) (by decide +kernel)
set_option maxRecDepth 20000 in
theorem gX5_readNextOrder_X5_readOrder : GoodIn wsX5_readNextOrder (wsV RX5 32 RX5 yX5_readOrder wsX5_readOrder) := goodIn_app (goodIn_of _ (by decide +kernel)) ggX5_readNextOrder_X5_readOrder
theorem dX5_readNextOrder_0 : decode cX5_readNextOrder 0 = .ok (.aload_n 0, 1) := by decide +kernel
theorem dX5_readNextOrder_1 : decode cX5_readNextOrder 1 = .ok (.getfield 36, 3) := by decide +kernel
theorem dX5_readNextOrder_4 : decode cX5_readNextOrder 4 = .ok (.ifCond .eq 12, 3) := by decide +kernel
theorem dX5_readNextOrder_7 : decode cX5_readNextOrder 7 = .ok (.aload_n 0, 1) := by decide +kernel
theorem dX5_readNextOrder_8 : decode cX5_readNextOrder 8 = .ok (.bipush 59, 2) := by decide +kernel
theorem dX5_readNextOrder_10 : decode cX5_readNextOrder 10 = .ok (.invokevirtual 42, 3) := by decide +kernel
theorem dX5_readNextOrder_13 : decode cX5_readNextOrder 13 = .ok (.ifCond .eq 14, 3) := by decide +kernel
theorem dX5_readNextOrder_16 : decode cX5_readNextOrder 16 = .ok (.aload_n 0, 1) := by decide +kernel
theorem dX5_readNextOrder_17 : decode cX5_readNextOrder 17 = .ok (.invokevirtual 32, 3) := by decide +kernel
theorem dX5_readNextOrder_20 : decode cX5_readNextOrder 20 = .ok (.ifCond .eq 7, 3) := by decide +kernel
theorem dX5_readNextOrder_23 : decode cX5_readNextOrder 23 = .ok (.iconst 1, 1) := by decide +kernel
theorem dX5_readNextOrder_24 : decode cX5_readNextOrder 24 = .ok (.goto 4, 3) := by decide +kernel
theorem dX5_readNextOrder_27 : decode cX5_readNextOrder 27 = .ok (.iconst 0, 1) := by decide +kernel
theorem dX5_readNextOrder_28 : decode cX5_readNextOrder 28 = .ok (.ireturn, 1) := by decide +kernel
set_option maxRecDepth 20000 in
theorem ggX5_readOrder_X5_sign : GoodIn wsX5_readOrder wsX5_sign := goodIn_r _ [8, 3, 9, 10, 148, 149, 150, 151, 152, 153] (by decide +kernel) (by decide +kernel)
set_option maxRecDepth 20000 in
theorem gX5_readOrder_X5_sign : GoodIn wsX5_readOrder (wsV RX5 48 RX5 yX5_sign wsX5_sign) := goodIn_app (goodIn_of _ (by decide +kernel)) ggX5_readOrder_X5_sign
set_option maxRecDepth 20000 in
theorem ggX5_readOrder_J0_indexOf_0f7a4 : GoodIn wsX5_readOrder wsJ0_indexOf_0f7a4 := goodIn_r _ [15, 16, 17, 18, 14, 19, 20, 21, 22, 23, 24, 25, 26, 27, 28, 29, 30, 31, 32, 33, 34, 35, 36, 37, 38, 39, 40, 41, 42, 43, 44, 45, 46, 47, 48, 49, 50, 51, 52, 53, 54, 55, 56, 57, 58, 59, 60, 61, 62, 63, 64, 65, 66, 67, 68, 69, 70, 71, 72, 73, 74, 75, 76, 77, 78, 79, 80, 81, 82, 83, 84, 85, 86, 87, 88, 89, 90, 91, 92, 93, 94, 95, 96, 97, 98, 99] (by decide +kernel) (by decide +kernel)
set_option maxRecDepth 20000 in
theorem gX5_readOrder_J0_indexOf_0f7a4 : GoodIn wsX5_readOrder (wsV RX5 52 RJ0 yJ0_indexOf_0f7a4 wsJ0_indexOf_0f7a4) := goodIn_app (goodIn_of _ (by decide +kernel)) ggX5_readOrder_J0_indexOf_0f7a4
set_option maxRecDepth 20000 in
theorem ggX5_readOrder_X5_shapeOf : GoodIn wsX5_readOrder wsX5_shapeOf := goodIn_r _ [102] (by decide +kernel) (by decide +kernel)
set_option maxRecDepth 20000 in
theorem gX5_readOrder_X5_shapeOf : GoodIn wsX5_readOrder (va_wsS RX5 64 yX5_shapeOf wsX5_shapeOf) := goodIn_app (goodIn_of _ (by decide +kernel)) ggX5_readOrder_X5_shapeOf
set_option maxRecDepth 20000 in
theorem ggX5_readOrder_J0_length_8abf5 : GoodIn wsX5_readOrder wsJ0_length_8abf5 := goodIn_r _ [30, 20, 31, 32, 33, 14, 34, 25, 26] (by decide +kernel) (by decide +kernel)
set_option maxRecDepth 20000 in
theorem gX5_readOrder_J0_length_8abf5 : GoodIn wsX5_readOrder (wsV RX5 68 RJ0 yJ0_length_8abf5 wsJ0_length_8abf5) := goodIn_app (goodIn_of _ (by decide +kernel)) ggX5_readOrder_J0_length_8abf5
set_option maxRecDepth 20000 in
theorem ggX5_readOrder_J0_charAt_5068e : GoodIn wsX5_readOrder wsJ0_charAt_5068e := goodIn_r _ [107, 20, 21, 22, 23, 14, 24, 25, 26, 108, 109, 37, 110, 111, 112, 113, 71, 114, 115, 74, 116, 117, 118, 54, 119, 120, 121, 122, 65, 66, 67, 123, 79, 80, 81, 82, 83, 84] (by decide +kernel) (by decide +kernel)
set_option maxRecDepth 20000 in
theorem gX5_readOrder_J0_charAt_5068e : GoodIn wsX5_readOrder (wsV RX5 71 RJ0 yJ0_charAt_5068e wsJ0_charAt_5068e) := goodIn_app (goodIn_of _ (by decide +kernel)) ggX5_readOrder_J0_charAt_5068e
set_option maxRecDepth 20000 in
theorem ggX5_readOrder_X5_readPart : GoodIn wsX5_readOrder wsX5_readPart := goodIn_r _ [127, 128, 129, 130, 7, 131, 3, 9, 4, 5, 6, 8, 10, 132, 133, 134, 135, 136, 137, 138, 2, 139, 140, 141, 142, 143, 144, 145, 146, 147, 148, 149, 150, 151, 152, 153] (by decide +kernel) (by decide +kernel)
set_option maxRecDepth 20000 in
theorem gX5_readOrder_X5_readPart : GoodIn wsX5_readOrder (wsV RX5 75 RX5 yX5_readPart wsX5_readPart) := goodIn_app (goodIn_of _ (by decide +kernel)) ggX5_readOrder_X5_readPart
theorem dX5_readOrder_0 : decode cX5_readOrder 0 = .ok (.aload_n 0, 1) := by decide +kernel
theorem dX5_readOrder_1 : decode cX5_readOrder 1 = .ok (.ldc 46, 2) := by decide +kernel
theorem dX5_readOrder_3 : decode cX5_readOrder 3 = .ok (.aload_n 0, 1) := by decide +kernel
theorem dX5_readOrder_4 : decode cX5_readOrder 4 = .ok (.invokevirtual 48, 3) := by decide +kernel
theorem dX5_readOrder_7 : decode cX5_readOrder 7 = .ok (.invokevirtual 52, 3) := by decide +kernel
theorem dX5_readOrder_10 : decode cX5_readOrder 10 = .ok (.putfield 58, 3) := by decide +kernel
theorem dX5_readOrder_13 : decode cX5_readOrder 13 = .ok (.aload_n 0, 1) := by decide +kernel
theorem dX5_readOrder_14 : decode cX5_readOrder 14 = .ok (.iconst 0, 1) := by decide +kernel
theorem dX5_readOrder_15 : decode cX5_readOrder 15 = .ok (.putfield 61, 3) := by decide +kernel
theorem dX5_readOrder_18 : decode cX5_readOrder 18 = .ok (.aload_n 0, 1) := by decide +kernel
theorem dX5_readOrder_19 : decode cX5_readOrder 19 = .ok (.getfield 58, 3) := by decide +kernel
theorem dX5_readOrder_22 : decode cX5_readOrder 22 = .ok (.ifCond .ge 5, 3) := by decide +kernel
theorem dX5_readOrder_25 : decode cX5_readOrder 25 = .ok (.iconst 0, 1) := by decide +kernel
theorem dX5_readOrder_26 : decode cX5_readOrder 26 = .ok (.ireturn, 1) := by decide +kernel
theorem dX5_readOrder_27 : decode cX5_readOrder 27 = .ok (.aload_n 0, 1) := by decide +kernel
theorem dX5_readOrder_28 : decode cX5_readOrder 28 = .ok (.dup, 1) := by decide +kernel
theorem dX5_readOrder_29 : decode cX5_readOrder 29 = .ok (.getfield 36, 3) := by decide +kernel
theorem dX5_readOrder_32 : decode cX5_readOrder 32 = .ok (.iconst 1, 1) := by decide +kernel
theorem dX5_readOrder_33 : decode cX5_readOrder 33 = .ok (.iadd, 1) := by decide +kernel
theorem dX5_readOrder_34 : decode cX5_readOrder 34 = .ok (.putfield 36, 3) := by decide +kernel
theorem dX5_readOrder_37 : decode cX5_readOrder 37 = .ok (.aload_n 0, 1) := by decide +kernel
theorem dX5_readOrder_38 : decode cX5_readOrder 38 = .ok (.getfield 58, 3) := by decide +kernel
theorem dX5_readOrder_41 : decode cX5_readOrder 41 = .ok (.invokestatic 64, 3) := by decide +kernel
theorem dX5_readOrder_44 : decode cX5_readOrder 44 = .ok (.astore_n 1, 1) := by decide +kernel
theorem dX5_readOrder_45 : decode cX5_readOrder 45 = .ok (.iconst 1, 1) := by decide +kernel
theorem dX5_readOrder_46 : decode cX5_readOrder 46 = .ok (.istore_n 2, 1) := by decide +kernel
theorem dX5_readOrder_47 : decode cX5_readOrder 47 = .ok (.iconst 0, 1) := by decide +kernel
theorem dX5_readOrder_48 : decode cX5_readOrder 48 = .ok (.istore_n 3, 1) := by decide +kernel
theorem dX5_readOrder_49 : decode cX5_readOrder 49 = .ok (.iload_n 3, 1) := by decide +kernel
theorem dX5_readOrder_50 : decode cX5_readOrder 50 = .ok (.aload_n 1, 1) := by decide +kernel
theorem dX5_readOrder_51 : decode cX5_readOrder 51 = .ok (.invokevirtual 68, 3) := by decide +kernel
theorem dX5_readOrder_54 : decode cX5_readOrder 54 = .ok (.if_icmp .ge 23, 3) := by decide +kernel
theorem dX5_readOrder_57 : decode cX5_readOrder 57 = .ok (.iload_n 2, 1) := by decide +kernel
theorem dX5_readOrder_58 : decode cX5_readOrder 58 = .ok (.ifCond .eq 19, 3) := by decide +kernel
theorem dX5_readOrder_61 : decode cX5_readOrder 61 = .ok (.aload_n 0, 1) := by decide +kernel
theorem dX5_readOrder_62 : decode cX5_readOrder 62 = .ok (.aload_n 1, 1) := by decide +kernel
theorem dX5_readOrder_63 : decode cX5_readOrder 63 = .ok (.iload_n 3, 1) := by decide +kernel
theorem dX5_readOrder_64 : decode cX5_readOrder 64 = .ok (.invokevirtual 71, 3) := by decide +kernel
theorem dX5_readOrder_67 : decode cX5_readOrder 67 = .ok (.invokevirtual 75, 3) := by decide +kernel
theorem dX5_readOrder_70 : decode cX5_readOrder 70 = .ok (.istore_n 2, 1) := by decide +kernel
theorem dX5_readOrder_71 : decode cX5_readOrder 71 = .ok (.iinc 3 1, 3) := by decide +kernel
theorem dX5_readOrder_74 : decode cX5_readOrder 74 = .ok (.goto (-25), 3) := by decide +kernel
theorem dX5_readOrder_77 : decode cX5_readOrder 77 = .ok (.iload_n 2, 1) := by decide +kernel
theorem dX5_readOrder_78 : decode cX5_readOrder 78 = .ok (.ireturn, 1) := by decide +kernel
theorem dX5_shapeOf_0 : decode cX5_shapeOf 0 = .ok (.iload_n 0, 1) := by decide +kernel
theorem dX5_shapeOf_1 : decode cX5_shapeOf 1 = .ok (.tableswitch 47 0 4 #[35, 38, 41, 47, 44], 35) := by decide +kernel
theorem dX5_shapeOf_36 : decode cX5_shapeOf 36 = .ok (.ldc 78, 2) := by decide +kernel
theorem dX5_shapeOf_38 : decode cX5_shapeOf 38 = .ok (.areturn, 1) := by decide +kernel
theorem dX5_shapeOf_39 : decode cX5_shapeOf 39 = .ok (.ldc 80, 2) := by decide +kernel
theorem dX5_shapeOf_41 : decode cX5_shapeOf 41 = .ok (.areturn, 1) := by decide +kernel
theorem dX5_shapeOf_42 : decode cX5_shapeOf 42 = .ok (.ldc 82, 2) := by decide +kernel
theorem dX5_shapeOf_44 : decode cX5_shapeOf 44 = .ok (.areturn, 1) := by decide +kernel
theorem dX5_shapeOf_45 : decode cX5_shapeOf 45 = .ok (.ldc 84, 2) := by decide +kernel
theorem dX5_shapeOf_47 : decode cX5_shapeOf 47 = .ok (.areturn, 1) := by decide +kernel
theorem dX5_shapeOf_48 : decode cX5_shapeOf 48 = .ok (.ldc 86, 2) := by decide +kernel
theorem dX5_shapeOf_50 : decode cX5_shapeOf 50 = .ok (.areturn, 1) := by decide +kernel
set_option maxRecDepth 20000 in
theorem ggX5_readPart_X5_readNumber : GoodIn wsX5_readPart wsX5_readNumber := goodIn_r _ [5, 6, 7, 8, 9, 10, 4, 11, 12, 13, 14, 15, 16, 17, 18, 19, 20, 21, 30, 31, 32, 33, 34, 35] (by decide +kernel) (by decide +kernel)
set_option maxRecDepth 20000 in
theorem gX5_readPart_X5_readNumber : GoodIn wsX5_readPart (wsV RX5 88 RX5 yX5_readNumber wsX5_readNumber) := goodIn_app (goodIn_of _ (by decide +kernel)) ggX5_readPart_X5_readNumber
set_option maxRecDepth 20000 in
theorem ggX5_readPart_X5_readDigit : GoodIn wsX5_readPart wsX5_readDigit := goodIn_r _ [25, 6, 8, 9, 10, 4, 11, 7, 12, 13, 14, 15, 16, 17, 18, 19, 20, 21, 30, 31, 32, 33, 34, 35] (by decide +kernel) (by decide +kernel)
set_option maxRecDepth 20000 in
theorem gX5_readPart_X5_readDigit : GoodIn wsX5_readPart (wsV RX5 91 RX5 yX5_readDigit wsX5_readDigit) := goodIn_app (goodIn_of _ (by decide +kernel)) ggX5_readPart_X5_readDigit
set_option maxRecDepth 20000 in
theorem ggX5_readPart_X5_readSign : GoodIn wsX5_readPart wsX5_readSign := goodIn_r _ [29, 6, 8, 9, 10, 4, 11, 7, 12, 30, 31, 32, 33, 34, 35] (by decide +kernel) (by decide +kernel)
set_option maxRecDepth 20000 in
theorem gX5_readPart_X5_readSign : GoodIn wsX5_readPart (wsV RX5 42 RX5 yX5_readSign wsX5_readSign) := goodIn_app (goodIn_of _ (by decide +kernel)) ggX5_readPart_X5_readSign
theorem dX5_readPart_0 : decode cX5_readPart 0 = .ok (.iload_n 1, 1) := by decide +kernel
theorem dX5_readPart_1 : decode cX5_readPart 1 = .ok (.bipush 110, 2) := by decide +kernel
theorem dX5_readPart_3 : decode cX5_readPart 3 = .ok (.if_icmp .ne 8, 3) := by decide +kernel
theorem dX5_readPart_6 : decode cX5_readPart 6 = .ok (.aload_n 0, 1) := by decide +kernel
theorem dX5_readPart_7 : decode cX5_readPart 7 = .ok (.invokevirtual 88, 3) := by decide +kernel
theorem dX5_readPart_10 : decode cX5_readPart 10 = .ok (.ireturn, 1) := by decide +kernel
theorem dX5_readPart_11 : decode cX5_readPart 11 = .ok (.iload_n 1, 1) := by decide +kernel
theorem dX5_readPart_12 : decode cX5_readPart 12 = .ok (.bipush 49, 2) := by decide +kernel
theorem dX5_readPart_14 : decode cX5_readPart 14 = .ok (.if_icmp .ne 8, 3) := by decide +kernel
theorem dX5_readPart_17 : decode cX5_readPart 17 = .ok (.aload_n 0, 1) := by decide +kernel
theorem dX5_readPart_18 : decode cX5_readPart 18 = .ok (.invokevirtual 91, 3) := by decide +kernel
theorem dX5_readPart_21 : decode cX5_readPart 21 = .ok (.ireturn, 1) := by decide +kernel
theorem dX5_readPart_22 : decode cX5_readPart 22 = .ok (.aload_n 0, 1) := by decide +kernel
theorem dX5_readPart_23 : decode cX5_readPart 23 = .ok (.iload_n 1, 1) := by decide +kernel
theorem dX5_readPart_24 : decode cX5_readPart 24 = .ok (.invokevirtual 42, 3) := by decide +kernel
theorem dX5_readPart_27 : decode cX5_readPart 27 = .ok (.ireturn, 1) := by decide +kernel
theorem dX5_sign_0 : decode cX5_sign 0 = .ok (.aload_n 0, 1) := by decide +kernel
theorem dX5_sign_1 : decode cX5_sign 1 = .ok (.getfield 36, 3) := by decide +kernel
theorem dX5_sign_4 : decode cX5_sign 4 = .ok (.ifCond .lt 35, 3) := by decide +kernel
theorem dX5_sign_7 : decode cX5_sign 7 = .ok (.aload_n 0, 1) := by decide +kernel
theorem dX5_sign_8 : decode cX5_sign 8 = .ok (.getfield 36, 3) := by decide +kernel
theorem dX5_sign_11 : decode cX5_sign 11 = .ok (.aload_n 0, 1) := by decide +kernel
theorem dX5_sign_12 : decode cX5_sign 12 = .ok (.getfield 25, 3) := by decide +kernel
theorem dX5_sign_15 : decode cX5_sign 15 = .ok (.if_icmp .ge 24, 3) := by decide +kernel
theorem dX5_sign_18 : decode cX5_sign 18 = .ok (.aload_n 0, 1) := by decide +kernel
theorem dX5_sign_19 : decode cX5_sign 19 = .ok (.getfield 36, 3) := by decide +kernel
theorem dX5_sign_22 : decode cX5_sign 22 = .ok (.bipush 80, 2) := by decide +kernel
theorem dX5_sign_24 : decode cX5_sign 24 = .ok (.if_icmp .ge 15, 3) := by decide +kernel
theorem dX5_sign_27 : decode cX5_sign 27 = .ok (.aload_n 0, 1) := by decide +kernel
theorem dX5_sign_28 : decode cX5_sign 28 = .ok (.getfield 9, 3) := by decide +kernel
theorem dX5_sign_31 : decode cX5_sign 31 = .ok (.aload_n 0, 1) := by decide +kernel
theorem dX5_sign_32 : decode cX5_sign 32 = .ok (.getfield 36, 3) := by decide +kernel
theorem dX5_sign_35 : decode cX5_sign 35 = .ok (.caload, 1) := by decide +kernel
theorem dX5_sign_36 : decode cX5_sign 36 = .ok (.goto 4, 3) := by decide +kernel
theorem dX5_sign_39 : decode cX5_sign 39 = .ok (.iconst 0, 1) := by decide +kernel
theorem dX5_sign_40 : decode cX5_sign 40 = .ok (.ireturn, 1) := by decide +kernel
set_option maxRecDepth 20000 in
theorem ggX5_readSign_X5_sign : GoodIn wsX5_readSign wsX5_sign := goodIn_r _ [6, 1, 7, 8, 9, 10, 11, 12, 13, 14] (by decide +kernel) (by decide +kernel)
set_option maxRecDepth 20000 in
theorem gX5_readSign_X5_sign : GoodIn wsX5_readSign (wsV RX5 48 RX5 yX5_sign wsX5_sign) := goodIn_app (goodIn_of _ (by decide +kernel)) ggX5_readSign_X5_sign
theorem dX5_readSign_0 : decode cX5_readSign 0 = .ok (.aload_n 0, 1) := by decide +kernel
theorem dX5_readSign_1 : decode cX5_readSign 1 = .ok (.invokevirtual 48, 3) := by decide +kernel
theorem dX5_readSign_4 : decode cX5_readSign 4 = .ok (.iload_n 1, 1) := by decide +kernel
theorem dX5_readSign_5 : decode cX5_readSign 5 = .ok (.if_icmp .eq 5, 3) := by decide +kernel
theorem dX5_readSign_8 : decode cX5_readSign 8 = .ok (.iconst 0, 1) := by decide +kernel
theorem dX5_readSign_9 : decode cX5_readSign 9 = .ok (.ireturn, 1) := by decide +kernel
theorem dX5_readSign_10 : decode cX5_readSign 10 = .ok (.aload_n 0, 1) := by decide +kernel
theorem dX5_readSign_11 : decode cX5_readSign 11 = .ok (.dup, 1) := by decide +kernel
theorem dX5_readSign_12 : decode cX5_readSign 12 = .ok (.getfield 36, 3) := by decide +kernel
theorem dX5_readSign_15 : decode cX5_readSign 15 = .ok (.iconst 1, 1) := by decide +kernel
theorem dX5_readSign_16 : decode cX5_readSign 16 = .ok (.iadd, 1) := by decide +kernel
theorem dX5_readSign_17 : decode cX5_readSign 17 = .ok (.putfield 36, 3) := by decide +kernel
theorem dX5_readSign_20 : decode cX5_readSign 20 = .ok (.iconst 1, 1) := by decide +kernel
theorem dX5_readSign_21 : decode cX5_readSign 21 = .ok (.ireturn, 1) := by decide +kernel
set_option maxRecDepth 20000 in
theorem ggX5_readDigit_X5_sign : GoodIn wsX5_readDigit wsX5_sign := goodIn_r _ [6, 1, 7, 8, 18, 19, 20, 21, 22, 23] (by decide +kernel) (by decide +kernel)
set_option maxRecDepth 20000 in
theorem gX5_readDigit_X5_sign : GoodIn wsX5_readDigit (wsV RX5 48 RX5 yX5_sign wsX5_sign) := goodIn_app (goodIn_of _ (by decide +kernel)) ggX5_readDigit_X5_sign
set_option maxRecDepth 20000 in
theorem ggX5_readDigit_X9_within : GoodIn wsX5_readDigit wsX9_within := goodIn_r _ [11] (by decide +kernel) (by decide +kernel)
set_option maxRecDepth 20000 in
theorem gX5_readDigit_X9_within_n21 : GoodIn wsX5_readDigit (wsX9_within) := ggX5_readDigit_X9_within
set_option maxRecDepth 20000 in
theorem ggX5_readDigit_X5_keepNumber : GoodIn wsX5_readDigit wsX5_keepNumber := goodIn_r _ [15, 16, 17, 18, 19, 20, 21, 22, 23] (by decide +kernel) (by decide +kernel)
set_option maxRecDepth 20000 in
theorem gX5_readDigit_X5_keepNumber : GoodIn wsX5_readDigit (wsV RX5 94 RX5 yX5_keepNumber wsX5_keepNumber) := goodIn_app (goodIn_of _ (by decide +kernel)) ggX5_readDigit_X5_keepNumber
theorem dX5_readDigit_0 : decode cX5_readDigit 0 = .ok (.aload_n 0, 1) := by decide +kernel
theorem dX5_readDigit_1 : decode cX5_readDigit 1 = .ok (.invokevirtual 48, 3) := by decide +kernel
theorem dX5_readDigit_4 : decode cX5_readDigit 4 = .ok (.bipush 49, 2) := by decide +kernel
theorem dX5_readDigit_6 : decode cX5_readDigit 6 = .ok (.bipush 57, 2) := by decide +kernel
theorem dX5_readDigit_8 : decode cX5_readDigit 8 = .ok (.invokestatic 21, 3) := by decide +kernel
theorem dX5_readDigit_11 : decode cX5_readDigit 11 = .ok (.ifCond .ne 5, 3) := by decide +kernel
theorem dX5_readDigit_14 : decode cX5_readDigit 14 = .ok (.iconst 0, 1) := by decide +kernel
theorem dX5_readDigit_15 : decode cX5_readDigit 15 = .ok (.ireturn, 1) := by decide +kernel
theorem dX5_readDigit_16 : decode cX5_readDigit 16 = .ok (.aload_n 0, 1) := by decide +kernel
theorem dX5_readDigit_17 : decode cX5_readDigit 17 = .ok (.aload_n 0, 1) := by decide +kernel
theorem dX5_readDigit_18 : decode cX5_readDigit 18 = .ok (.invokevirtual 48, 3) := by decide +kernel
theorem dX5_readDigit_21 : decode cX5_readDigit 21 = .ok (.bipush 48, 2) := by decide +kernel
theorem dX5_readDigit_23 : decode cX5_readDigit 23 = .ok (.isub, 1) := by decide +kernel
theorem dX5_readDigit_24 : decode cX5_readDigit 24 = .ok (.invokevirtual 94, 3) := by decide +kernel
theorem dX5_readDigit_27 : decode cX5_readDigit 27 = .ok (.aload_n 0, 1) := by decide +kernel
theorem dX5_readDigit_28 : decode cX5_readDigit 28 = .ok (.dup, 1) := by decide +kernel
theorem dX5_readDigit_29 : decode cX5_readDigit 29 = .ok (.getfield 36, 3) := by decide +kernel
theorem dX5_readDigit_32 : decode cX5_readDigit 32 = .ok (.iconst 1, 1) := by decide +kernel
theorem dX5_readDigit_33 : decode cX5_readDigit 33 = .ok (.iadd, 1) := by decide +kernel
theorem dX5_readDigit_34 : decode cX5_readDigit 34 = .ok (.putfield 36, 3) := by decide +kernel
theorem dX5_readDigit_37 : decode cX5_readDigit 37 = .ok (.iconst 1, 1) := by decide +kernel
theorem dX5_readDigit_38 : decode cX5_readDigit 38 = .ok (.ireturn, 1) := by decide +kernel
set_option maxRecDepth 20000 in
theorem ggX5_readNumber_X5_sign : GoodIn wsX5_readNumber wsX5_sign := goodIn_r _ [7, 1, 2, 8, 18, 19, 20, 21, 22, 23] (by decide +kernel) (by decide +kernel)
set_option maxRecDepth 20000 in
theorem gX5_readNumber_X5_sign : GoodIn wsX5_readNumber (wsV RX5 48 RX5 yX5_sign wsX5_sign) := goodIn_app (goodIn_of _ (by decide +kernel)) ggX5_readNumber_X5_sign
set_option maxRecDepth 20000 in
theorem ggX5_readNumber_X9_within : GoodIn wsX5_readNumber wsX9_within := goodIn_r _ [11] (by decide +kernel) (by decide +kernel)
set_option maxRecDepth 20000 in
theorem gX5_readNumber_X9_within_n21 : GoodIn wsX5_readNumber (wsX9_within) := ggX5_readNumber_X9_within
set_option maxRecDepth 20000 in
theorem ggX5_readNumber_X5_keepNumber : GoodIn wsX5_readNumber wsX5_keepNumber := goodIn_r _ [15, 16, 17, 18, 19, 20, 21, 22, 23] (by decide +kernel) (by decide +kernel)
set_option maxRecDepth 20000 in
theorem gX5_readNumber_X5_keepNumber : GoodIn wsX5_readNumber (wsV RX5 94 RX5 yX5_keepNumber wsX5_keepNumber) := goodIn_app (goodIn_of _ (by decide +kernel)) ggX5_readNumber_X5_keepNumber
theorem dX5_readNumber_0 : decode cX5_readNumber 0 = .ok (.aload_n 0, 1) := by decide +kernel
theorem dX5_readNumber_1 : decode cX5_readNumber 1 = .ok (.invokevirtual 48, 3) := by decide +kernel
theorem dX5_readNumber_4 : decode cX5_readNumber 4 = .ok (.bipush 48, 2) := by decide +kernel
theorem dX5_readNumber_6 : decode cX5_readNumber 6 = .ok (.bipush 57, 2) := by decide +kernel
theorem dX5_readNumber_8 : decode cX5_readNumber 8 = .ok (.invokestatic 21, 3) := by decide +kernel
theorem dX5_readNumber_11 : decode cX5_readNumber 11 = .ok (.ifCond .ne 5, 3) := by decide +kernel
theorem dX5_readNumber_14 : decode cX5_readNumber 14 = .ok (.iconst 0, 1) := by decide +kernel
theorem dX5_readNumber_15 : decode cX5_readNumber 15 = .ok (.ireturn, 1) := by decide +kernel
theorem dX5_readNumber_16 : decode cX5_readNumber 16 = .ok (.aload_n 0, 1) := by decide +kernel
theorem dX5_readNumber_17 : decode cX5_readNumber 17 = .ok (.invokevirtual 48, 3) := by decide +kernel
theorem dX5_readNumber_20 : decode cX5_readNumber 20 = .ok (.bipush 48, 2) := by decide +kernel
theorem dX5_readNumber_22 : decode cX5_readNumber 22 = .ok (.isub, 1) := by decide +kernel
theorem dX5_readNumber_23 : decode cX5_readNumber 23 = .ok (.istore_n 1, 1) := by decide +kernel
theorem dX5_readNumber_24 : decode cX5_readNumber 24 = .ok (.aload_n 0, 1) := by decide +kernel
theorem dX5_readNumber_25 : decode cX5_readNumber 25 = .ok (.dup, 1) := by decide +kernel
theorem dX5_readNumber_26 : decode cX5_readNumber 26 = .ok (.getfield 36, 3) := by decide +kernel
theorem dX5_readNumber_29 : decode cX5_readNumber 29 = .ok (.iconst 1, 1) := by decide +kernel
theorem dX5_readNumber_30 : decode cX5_readNumber 30 = .ok (.iadd, 1) := by decide +kernel
theorem dX5_readNumber_31 : decode cX5_readNumber 31 = .ok (.putfield 36, 3) := by decide +kernel
theorem dX5_readNumber_34 : decode cX5_readNumber 34 = .ok (.aload_n 0, 1) := by decide +kernel
theorem dX5_readNumber_35 : decode cX5_readNumber 35 = .ok (.getfield 36, 3) := by decide +kernel
theorem dX5_readNumber_38 : decode cX5_readNumber 38 = .ok (.aload_n 0, 1) := by decide +kernel
theorem dX5_readNumber_39 : decode cX5_readNumber 39 = .ok (.getfield 25, 3) := by decide +kernel
theorem dX5_readNumber_42 : decode cX5_readNumber 42 = .ok (.if_icmp .ge 54, 3) := by decide +kernel
theorem dX5_readNumber_45 : decode cX5_readNumber 45 = .ok (.iload_n 1, 1) := by decide +kernel
theorem dX5_readNumber_46 : decode cX5_readNumber 46 = .ok (.iconst 1, 1) := by decide +kernel
theorem dX5_readNumber_47 : decode cX5_readNumber 47 = .ok (.sipush 999, 3) := by decide +kernel
theorem dX5_readNumber_50 : decode cX5_readNumber 50 = .ok (.invokestatic 21, 3) := by decide +kernel
theorem dX5_readNumber_53 : decode cX5_readNumber 53 = .ok (.ifCond .eq 43, 3) := by decide +kernel
theorem dX5_readNumber_56 : decode cX5_readNumber 56 = .ok (.aload_n 0, 1) := by decide +kernel
theorem dX5_readNumber_57 : decode cX5_readNumber 57 = .ok (.invokevirtual 48, 3) := by decide +kernel
theorem dX5_readNumber_60 : decode cX5_readNumber 60 = .ok (.bipush 48, 2) := by decide +kernel
theorem dX5_readNumber_62 : decode cX5_readNumber 62 = .ok (.bipush 57, 2) := by decide +kernel
theorem dX5_readNumber_64 : decode cX5_readNumber 64 = .ok (.invokestatic 21, 3) := by decide +kernel
theorem dX5_readNumber_67 : decode cX5_readNumber 67 = .ok (.ifCond .eq 29, 3) := by decide +kernel
theorem dX5_readNumber_70 : decode cX5_readNumber 70 = .ok (.iload_n 1, 1) := by decide +kernel
theorem dX5_readNumber_71 : decode cX5_readNumber 71 = .ok (.bipush 10, 2) := by decide +kernel
theorem dX5_readNumber_73 : decode cX5_readNumber 73 = .ok (.imul, 1) := by decide +kernel
theorem dX5_readNumber_74 : decode cX5_readNumber 74 = .ok (.aload_n 0, 1) := by decide +kernel
theorem dX5_readNumber_75 : decode cX5_readNumber 75 = .ok (.invokevirtual 48, 3) := by decide +kernel
theorem dX5_readNumber_78 : decode cX5_readNumber 78 = .ok (.iadd, 1) := by decide +kernel
theorem dX5_readNumber_79 : decode cX5_readNumber 79 = .ok (.bipush 48, 2) := by decide +kernel
theorem dX5_readNumber_81 : decode cX5_readNumber 81 = .ok (.isub, 1) := by decide +kernel
theorem dX5_readNumber_82 : decode cX5_readNumber 82 = .ok (.istore_n 1, 1) := by decide +kernel
theorem dX5_readNumber_83 : decode cX5_readNumber 83 = .ok (.aload_n 0, 1) := by decide +kernel
theorem dX5_readNumber_84 : decode cX5_readNumber 84 = .ok (.dup, 1) := by decide +kernel
theorem dX5_readNumber_85 : decode cX5_readNumber 85 = .ok (.getfield 36, 3) := by decide +kernel
theorem dX5_readNumber_88 : decode cX5_readNumber 88 = .ok (.iconst 1, 1) := by decide +kernel
theorem dX5_readNumber_89 : decode cX5_readNumber 89 = .ok (.iadd, 1) := by decide +kernel
theorem dX5_readNumber_90 : decode cX5_readNumber 90 = .ok (.putfield 36, 3) := by decide +kernel
theorem dX5_readNumber_93 : decode cX5_readNumber 93 = .ok (.goto (-59), 3) := by decide +kernel
theorem dX5_readNumber_96 : decode cX5_readNumber 96 = .ok (.aload_n 0, 1) := by decide +kernel
theorem dX5_readNumber_97 : decode cX5_readNumber 97 = .ok (.iload_n 1, 1) := by decide +kernel
theorem dX5_readNumber_98 : decode cX5_readNumber 98 = .ok (.invokevirtual 94, 3) := by decide +kernel
theorem dX5_readNumber_101 : decode cX5_readNumber 101 = .ok (.iconst 1, 1) := by decide +kernel
theorem dX5_readNumber_102 : decode cX5_readNumber 102 = .ok (.ireturn, 1) := by decide +kernel
theorem dX5_keepNumber_0 : decode cX5_keepNumber 0 = .ok (.aload_n 0, 1) := by decide +kernel
theorem dX5_keepNumber_1 : decode cX5_keepNumber 1 = .ok (.getfield 61, 3) := by decide +kernel
theorem dX5_keepNumber_4 : decode cX5_keepNumber 4 = .ok (.ifCond .lt 32, 3) := by decide +kernel
theorem dX5_keepNumber_7 : decode cX5_keepNumber 7 = .ok (.aload_n 0, 1) := by decide +kernel
theorem dX5_keepNumber_8 : decode cX5_keepNumber 8 = .ok (.getfield 61, 3) := by decide +kernel
theorem dX5_keepNumber_11 : decode cX5_keepNumber 11 = .ok (.bipush 6, 2) := by decide +kernel
theorem dX5_keepNumber_13 : decode cX5_keepNumber 13 = .ok (.if_icmp .ge 23, 3) := by decide +kernel
theorem dX5_keepNumber_16 : decode cX5_keepNumber 16 = .ok (.aload_n 0, 1) := by decide +kernel
theorem dX5_keepNumber_17 : decode cX5_keepNumber 17 = .ok (.getfield 15, 3) := by decide +kernel
theorem dX5_keepNumber_20 : decode cX5_keepNumber 20 = .ok (.aload_n 0, 1) := by decide +kernel
theorem dX5_keepNumber_21 : decode cX5_keepNumber 21 = .ok (.getfield 61, 3) := by decide +kernel
theorem dX5_keepNumber_24 : decode cX5_keepNumber 24 = .ok (.iload_n 1, 1) := by decide +kernel
theorem dX5_keepNumber_25 : decode cX5_keepNumber 25 = .ok (.iastore, 1) := by decide +kernel
theorem dX5_keepNumber_26 : decode cX5_keepNumber 26 = .ok (.aload_n 0, 1) := by decide +kernel
theorem dX5_keepNumber_27 : decode cX5_keepNumber 27 = .ok (.dup, 1) := by decide +kernel
theorem dX5_keepNumber_28 : decode cX5_keepNumber 28 = .ok (.getfield 61, 3) := by decide +kernel
theorem dX5_keepNumber_31 : decode cX5_keepNumber 31 = .ok (.iconst 1, 1) := by decide +kernel
theorem dX5_keepNumber_32 : decode cX5_keepNumber 32 = .ok (.iadd, 1) := by decide +kernel
theorem dX5_keepNumber_33 : decode cX5_keepNumber 33 = .ok (.putfield 61, 3) := by decide +kernel
theorem dX5_keepNumber_36 : decode cX5_keepNumber 36 = .ok (.return_, 1) := by decide +kernel
set_option maxRecDepth 20000 in
theorem ggX6_init_X3_init : GoodIn wsX6_init wsX3_init := goodIn_r _ [32, 33, 2, 3, 34, 35, 36, 37, 38, 73, 74, 75, 76, 77] (by decide +kernel) (by decide +kernel)
set_option maxRecDepth 20000 in
theorem gX6_init_X3_init_n25 : GoodIn wsX6_init (wsX3_init) := ggX6_init_X3_init
set_option maxRecDepth 20000 in
theorem ggX6_init_X8_init : GoodIn wsX6_init wsX8_init := goodIn_r _ [41, 42, 2, 3, 34, 43, 44, 45, 46, 47, 48, 49, 50, 78, 79, 80, 81] (by decide +kernel) (by decide +kernel)
set_option maxRecDepth 20000 in
theorem gX6_init_X8_init : GoodIn wsX6_init (wsX8_init) := ggX6_init_X8_init
set_option maxRecDepth 20000 in
theorem ggX6_init_X2_init : GoodIn wsX6_init wsX2_init := goodIn_r _ [52, 53, 2, 3, 34, 54, 55, 82, 83, 84, 85] (by decide +kernel) (by decide +kernel)
set_option maxRecDepth 20000 in
theorem gX6_init_X2_init_n39 : GoodIn wsX6_init (wsX2_init) := ggX6_init_X2_init
set_option maxRecDepth 20000 in
theorem ggX6_init_X1_init : GoodIn wsX6_init wsX1_init := goodIn_r _ [57, 58, 2, 3, 34, 59, 86, 87] (by decide +kernel) (by decide +kernel)
set_option maxRecDepth 20000 in
theorem gX6_init_X1_init_n46 : GoodIn wsX6_init (wsX1_init) := ggX6_init_X1_init
set_option maxRecDepth 20000 in
theorem ggX6_init_X0_init : GoodIn wsX6_init wsX0_init := goodIn_r _ [61, 62, 2, 3] (by decide +kernel) (by decide +kernel)
set_option maxRecDepth 20000 in
theorem gX6_init_X0_init_n53 : GoodIn wsX6_init (wsX0_init) := ggX6_init_X0_init
theorem dX6_init_0 : decode cX6_init 0 = .ok (.aload_n 0, 1) := by decide +kernel
theorem dX6_init_1 : decode cX6_init 1 = .ok (.invokespecial 3, 3) := by decide +kernel
theorem dX6_init_4 : decode cX6_init 4 = .ok (.aload_n 0, 1) := by decide +kernel
theorem dX6_init_5 : decode cX6_init 5 = .ok (.getstatic 9, 3) := by decide +kernel
theorem dX6_init_8 : decode cX6_init 8 = .ok (.invokevirtual 13, 3) := by decide +kernel
theorem dX6_init_11 : decode cX6_init 11 = .ok (.checkcast 14, 3) := by decide +kernel
theorem dX6_init_14 : decode cX6_init 14 = .ok (.putfield 18, 3) := by decide +kernel
theorem dX6_init_17 : decode cX6_init 17 = .ok (.aload_n 0, 1) := by decide +kernel
theorem dX6_init_18 : decode cX6_init 18 = .ok (.new 23, 3) := by decide +kernel
theorem dX6_init_21 : decode cX6_init 21 = .ok (.dup, 1) := by decide +kernel
theorem dX6_init_22 : decode cX6_init 22 = .ok (.invokespecial 25, 3) := by decide +kernel
theorem dX6_init_25 : decode cX6_init 25 = .ok (.putfield 26, 3) := by decide +kernel
theorem dX6_init_28 : decode cX6_init 28 = .ok (.aload_n 0, 1) := by decide +kernel
theorem dX6_init_29 : decode cX6_init 29 = .ok (.new 30, 3) := by decide +kernel
theorem dX6_init_32 : decode cX6_init 32 = .ok (.dup, 1) := by decide +kernel
theorem dX6_init_33 : decode cX6_init 33 = .ok (.invokespecial 32, 3) := by decide +kernel
theorem dX6_init_36 : decode cX6_init 36 = .ok (.putfield 33, 3) := by decide +kernel
theorem dX6_init_39 : decode cX6_init 39 = .ok (.aload_n 0, 1) := by decide +kernel
theorem dX6_init_40 : decode cX6_init 40 = .ok (.new 37, 3) := by decide +kernel
theorem dX6_init_43 : decode cX6_init 43 = .ok (.dup, 1) := by decide +kernel
theorem dX6_init_44 : decode cX6_init 44 = .ok (.invokespecial 39, 3) := by decide +kernel
theorem dX6_init_47 : decode cX6_init 47 = .ok (.putfield 40, 3) := by decide +kernel
theorem dX6_init_50 : decode cX6_init 50 = .ok (.aload_n 0, 1) := by decide +kernel
theorem dX6_init_51 : decode cX6_init 51 = .ok (.new 44, 3) := by decide +kernel
theorem dX6_init_54 : decode cX6_init 54 = .ok (.dup, 1) := by decide +kernel
theorem dX6_init_55 : decode cX6_init 55 = .ok (.invokespecial 46, 3) := by decide +kernel
theorem dX6_init_58 : decode cX6_init 58 = .ok (.putfield 47, 3) := by decide +kernel
theorem dX6_init_61 : decode cX6_init 61 = .ok (.aload_n 0, 1) := by decide +kernel
theorem dX6_init_62 : decode cX6_init 62 = .ok (.new 51, 3) := by decide +kernel
theorem dX6_init_65 : decode cX6_init 65 = .ok (.dup, 1) := by decide +kernel
theorem dX6_init_66 : decode cX6_init 66 = .ok (.invokespecial 53, 3) := by decide +kernel
theorem dX6_init_69 : decode cX6_init 69 = .ok (.putfield 54, 3) := by decide +kernel
theorem dX6_init_72 : decode cX6_init 72 = .ok (.return_, 1) := by decide +kernel
set_option maxRecDepth 20000 in
theorem ggX6_copyFrom_X9_copyAll : GoodIn wsX6_copyFrom wsX9_copyAll := goodIn_r _ [12, 13, 14, 15, 16, 17, 18, 19, 20] (by decide +kernel) (by decide +kernel)
set_option maxRecDepth 20000 in
theorem gX6_copyFrom_X9_copyAll_n58 : GoodIn wsX6_copyFrom (wsX9_copyAll) := ggX6_copyFrom_X9_copyAll
set_option maxRecDepth 20000 in
theorem ggX6_copyFrom_X3_copyFrom : GoodIn wsX6_copyFrom wsX3_copyFrom := goodIn_r _ [25, 26, 27, 28, 29, 30, 10, 11, 12, 13, 14, 15, 16, 17, 18, 19, 20, 66, 67, 68, 69, 70] (by decide +kernel) (by decide +kernel)
set_option maxRecDepth 20000 in
theorem gX6_copyFrom_X3_copyFrom : GoodIn wsX6_copyFrom (wsV RX6 62 RX3 yX3_copyFrom wsX3_copyFrom) := goodIn_app (goodIn_of _ (by decide +kernel)) ggX6_copyFrom_X3_copyFrom
set_option maxRecDepth 20000 in
theorem ggX6_copyFrom_X8_copyFrom : GoodIn wsX6_copyFrom wsX8_copyFrom := goodIn_r _ [35, 36, 37, 38, 39, 10, 11, 12, 13, 14, 15, 16, 17, 18, 19, 20, 71, 72, 73, 74] (by decide +kernel) (by decide +kernel)
set_option maxRecDepth 20000 in
theorem gX6_copyFrom_X8_copyFrom : GoodIn wsX6_copyFrom (wsV RX6 66 RX8 yX8_copyFrom wsX8_copyFrom) := goodIn_app (goodIn_of _ (by decide +kernel)) ggX6_copyFrom_X8_copyFrom
set_option maxRecDepth 20000 in
theorem ggX6_copyFrom_X2_copyFrom : GoodIn wsX6_copyFrom wsX2_copyFrom := goodIn_r _ [44, 45, 46, 47, 48, 10, 11, 12, 13, 14, 15, 16, 17, 18, 19, 20, 75, 76, 77, 78] (by decide +kernel) (by decide +kernel)
set_option maxRecDepth 20000 in
theorem gX6_copyFrom_X2_copyFrom : GoodIn wsX6_copyFrom (wsV RX6 69 RX2 yX2_copyFrom wsX2_copyFrom) := goodIn_app (goodIn_of _ (by decide +kernel)) ggX6_copyFrom_X2_copyFrom
set_option maxRecDepth 20000 in
theorem ggX6_copyFrom_X1_copyFrom : GoodIn wsX6_copyFrom wsX1_copyFrom := goodIn_r _ [53, 54, 55, 10, 11, 12, 13, 14, 15, 16, 17, 18, 19, 20, 79, 80] (by decide +kernel) (by decide +kernel)
set_option maxRecDepth 20000 in
theorem gX6_copyFrom_X1_copyFrom : GoodIn wsX6_copyFrom (wsV RX6 72 RX1 yX1_copyFrom wsX1_copyFrom) := goodIn_app (goodIn_of _ (by decide +kernel)) ggX6_copyFrom_X1_copyFrom
theorem dX6_copyFrom_0 : decode cX6_copyFrom 0 = .ok (.aload_n 1, 1) := by decide +kernel
theorem dX6_copyFrom_1 : decode cX6_copyFrom 1 = .ok (.getfield 18, 3) := by decide +kernel
theorem dX6_copyFrom_4 : decode cX6_copyFrom 4 = .ok (.aload_n 0, 1) := by decide +kernel
theorem dX6_copyFrom_5 : decode cX6_copyFrom 5 = .ok (.getfield 18, 3) := by decide +kernel
theorem dX6_copyFrom_8 : decode cX6_copyFrom 8 = .ok (.invokestatic 58, 3) := by decide +kernel
theorem dX6_copyFrom_11 : decode cX6_copyFrom 11 = .ok (.aload_n 0, 1) := by decide +kernel
theorem dX6_copyFrom_12 : decode cX6_copyFrom 12 = .ok (.getfield 26, 3) := by decide +kernel
theorem dX6_copyFrom_15 : decode cX6_copyFrom 15 = .ok (.aload_n 1, 1) := by decide +kernel
theorem dX6_copyFrom_16 : decode cX6_copyFrom 16 = .ok (.getfield 26, 3) := by decide +kernel
theorem dX6_copyFrom_19 : decode cX6_copyFrom 19 = .ok (.invokevirtual 62, 3) := by decide +kernel
theorem dX6_copyFrom_22 : decode cX6_copyFrom 22 = .ok (.aload_n 0, 1) := by decide +kernel
theorem dX6_copyFrom_23 : decode cX6_copyFrom 23 = .ok (.getfield 33, 3) := by decide +kernel
theorem dX6_copyFrom_26 : decode cX6_copyFrom 26 = .ok (.aload_n 1, 1) := by decide +kernel
theorem dX6_copyFrom_27 : decode cX6_copyFrom 27 = .ok (.getfield 33, 3) := by decide +kernel
theorem dX6_copyFrom_30 : decode cX6_copyFrom 30 = .ok (.invokevirtual 66, 3) := by decide +kernel
theorem dX6_copyFrom_33 : decode cX6_copyFrom 33 = .ok (.aload_n 0, 1) := by decide +kernel
theorem dX6_copyFrom_34 : decode cX6_copyFrom 34 = .ok (.getfield 40, 3) := by decide +kernel
theorem dX6_copyFrom_37 : decode cX6_copyFrom 37 = .ok (.aload_n 1, 1) := by decide +kernel
theorem dX6_copyFrom_38 : decode cX6_copyFrom 38 = .ok (.getfield 40, 3) := by decide +kernel
theorem dX6_copyFrom_41 : decode cX6_copyFrom 41 = .ok (.invokevirtual 69, 3) := by decide +kernel
theorem dX6_copyFrom_44 : decode cX6_copyFrom 44 = .ok (.aload_n 0, 1) := by decide +kernel
theorem dX6_copyFrom_45 : decode cX6_copyFrom 45 = .ok (.getfield 47, 3) := by decide +kernel
theorem dX6_copyFrom_48 : decode cX6_copyFrom 48 = .ok (.aload_n 1, 1) := by decide +kernel
theorem dX6_copyFrom_49 : decode cX6_copyFrom 49 = .ok (.getfield 47, 3) := by decide +kernel
theorem dX6_copyFrom_52 : decode cX6_copyFrom 52 = .ok (.invokevirtual 72, 3) := by decide +kernel
theorem dX6_copyFrom_55 : decode cX6_copyFrom 55 = .ok (.aload_n 0, 1) := by decide +kernel
theorem dX6_copyFrom_56 : decode cX6_copyFrom 56 = .ok (.aload_n 1, 1) := by decide +kernel
