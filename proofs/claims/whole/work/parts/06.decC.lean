theorem dX5_init_0 : decode cX5_init 0 = .ok (.aload_n 0, 1) := by decide +kernel
theorem dX5_init_1 : decode cX5_init 1 = .ok (.invokespecial 1, 3) := by decide +kernel
theorem dX5_init_4 : decode cX5_init 4 = .ok (.aload_n 0, 1) := by decide +kernel
theorem dX5_init_5 : decode cX5_init 5 = .ok (.iconst 4, 1) := by decide +kernel
theorem dX5_init_6 : decode cX5_init 6 = .ok (.newarray .int, 2) := by decide +kernel
theorem dX5_init_8 : decode cX5_init 8 = .ok (.putfield 7, 3) := by decide +kernel
theorem dX5_init_11 : decode cX5_init 11 = .ok (.aload_n 0, 1) := by decide +kernel
theorem dX5_init_12 : decode cX5_init 12 = .ok (.bipush 24, 2) := by decide +kernel
theorem dX5_init_14 : decode cX5_init 14 = .ok (.newarray .int, 2) := by decide +kernel
theorem dX5_init_16 : decode cX5_init 16 = .ok (.putfield 13, 3) := by decide +kernel
theorem dX5_init_19 : decode cX5_init 19 = .ok (.aload_n 0, 1) := by decide +kernel
theorem dX5_init_20 : decode cX5_init 20 = .ok (.bipush 96, 2) := by decide +kernel
theorem dX5_init_22 : decode cX5_init 22 = .ok (.newarray .int, 2) := by decide +kernel
theorem dX5_init_24 : decode cX5_init 24 = .ok (.putfield 16, 3) := by decide +kernel
theorem dX5_init_27 : decode cX5_init 27 = .ok (.aload_n 0, 1) := by decide +kernel
theorem dX5_init_28 : decode cX5_init 28 = .ok (.bipush 24, 2) := by decide +kernel
theorem dX5_init_30 : decode cX5_init 30 = .ok (.newarray .int, 2) := by decide +kernel
theorem dX5_init_32 : decode cX5_init 32 = .ok (.putfield 19, 3) := by decide +kernel
theorem dX5_init_35 : decode cX5_init 35 = .ok (.aload_n 0, 1) := by decide +kernel
theorem dX5_init_36 : decode cX5_init 36 = .ok (.bipush 96, 2) := by decide +kernel
theorem dX5_init_38 : decode cX5_init 38 = .ok (.newarray .int, 2) := by decide +kernel
theorem dX5_init_40 : decode cX5_init 40 = .ok (.putfield 22, 3) := by decide +kernel
theorem dX5_init_43 : decode cX5_init 43 = .ok (.aload_n 0, 1) := by decide +kernel
theorem dX5_init_44 : decode cX5_init 44 = .ok (.bipush 24, 2) := by decide +kernel
theorem dX5_init_46 : decode cX5_init 46 = .ok (.newarray .boolean, 2) := by decide +kernel
theorem dX5_init_48 : decode cX5_init 48 = .ok (.putfield 25, 3) := by decide +kernel
theorem dX5_init_51 : decode cX5_init 51 = .ok (.aload_n 0, 1) := by decide +kernel
theorem dX5_init_52 : decode cX5_init 52 = .ok (.bipush 7, 2) := by decide +kernel
theorem dX5_init_54 : decode cX5_init 54 = .ok (.newarray .int, 2) := by decide +kernel
theorem dX5_init_56 : decode cX5_init 56 = .ok (.putfield 29, 3) := by decide +kernel
theorem dX5_init_59 : decode cX5_init 59 = .ok (.aload_n 0, 1) := by decide +kernel
theorem dX5_init_60 : decode cX5_init 60 = .ok (.bipush 7, 2) := by decide +kernel
theorem dX5_init_62 : decode cX5_init 62 = .ok (.newarray .int, 2) := by decide +kernel
theorem dX5_init_64 : decode cX5_init 64 = .ok (.putfield 32, 3) := by decide +kernel
theorem dX5_init_67 : decode cX5_init 67 = .ok (.aload_n 0, 1) := by decide +kernel
theorem dX5_init_68 : decode cX5_init 68 = .ok (.bipush 7, 2) := by decide +kernel
theorem dX5_init_70 : decode cX5_init 70 = .ok (.newarray .int, 2) := by decide +kernel
theorem dX5_init_72 : decode cX5_init 72 = .ok (.putfield 35, 3) := by decide +kernel
theorem dX5_init_75 : decode cX5_init 75 = .ok (.aload_n 0, 1) := by decide +kernel
theorem dX5_init_76 : decode cX5_init 76 = .ok (.bipush 7, 2) := by decide +kernel
theorem dX5_init_78 : decode cX5_init 78 = .ok (.newarray .int, 2) := by decide +kernel
theorem dX5_init_80 : decode cX5_init 80 = .ok (.putfield 38, 3) := by decide +kernel
theorem dX5_init_83 : decode cX5_init 83 = .ok (.aload_n 0, 1) := by decide +kernel
theorem dX5_init_84 : decode cX5_init 84 = .ok (.iconst 5, 1) := by decide +kernel
theorem dX5_init_85 : decode cX5_init 85 = .ok (.newarray .int, 2) := by decide +kernel
theorem dX5_init_87 : decode cX5_init 87 = .ok (.putfield 41, 3) := by decide +kernel
theorem dX5_init_90 : decode cX5_init 90 = .ok (.aload_n 0, 1) := by decide +kernel
theorem dX5_init_91 : decode cX5_init 91 = .ok (.iconst 5, 1) := by decide +kernel
theorem dX5_init_92 : decode cX5_init 92 = .ok (.newarray .int, 2) := by decide +kernel
theorem dX5_init_94 : decode cX5_init 94 = .ok (.putfield 44, 3) := by decide +kernel
theorem dX5_init_97 : decode cX5_init 97 = .ok (.aload_n 0, 1) := by decide +kernel
theorem dX5_init_98 : decode cX5_init 98 = .ok (.iconst 5, 1) := by decide +kernel
theorem dX5_init_99 : decode cX5_init 99 = .ok (.newarray .int, 2) := by decide +kernel
theorem dX5_init_101 : decode cX5_init 101 = .ok (.putfield 47, 3) := by decide +kernel
theorem dX5_init_104 : decode cX5_init 104 = .ok (.aload_n 0, 1) := by decide +kernel
theorem dX5_init_105 : decode cX5_init 105 = .ok (.iconst 5, 1) := by decide +kernel
theorem dX5_init_106 : decode cX5_init 106 = .ok (.newarray .int, 2) := by decide +kernel
theorem dX5_init_108 : decode cX5_init 108 = .ok (.putfield 50, 3) := by decide +kernel
theorem dX5_init_111 : decode cX5_init 111 = .ok (.aload_n 0, 1) := by decide +kernel
theorem dX5_init_112 : decode cX5_init 112 = .ok (.bipush 50, 2) := by decide +kernel
theorem dX5_init_114 : decode cX5_init 114 = .ok (.newarray .int, 2) := by decide +kernel
theorem dX5_init_116 : decode cX5_init 116 = .ok (.putfield 53, 3) := by decide +kernel
theorem dX5_init_119 : decode cX5_init 119 = .ok (.aload_n 0, 1) := by decide +kernel
theorem dX5_init_120 : decode cX5_init 120 = .ok (.bipush 10, 2) := by decide +kernel
theorem dX5_init_122 : decode cX5_init 122 = .ok (.newarray .int, 2) := by decide +kernel
theorem dX5_init_124 : decode cX5_init 124 = .ok (.putfield 56, 3) := by decide +kernel
theorem dX5_init_127 : decode cX5_init 127 = .ok (.aload_n 0, 1) := by decide +kernel
theorem dX5_init_128 : decode cX5_init 128 = .ok (.bipush 12, 2) := by decide +kernel
theorem dX5_init_130 : decode cX5_init 130 = .ok (.newarray .int, 2) := by decide +kernel
theorem dX5_init_132 : decode cX5_init 132 = .ok (.putfield 59, 3) := by decide +kernel
theorem dX5_init_135 : decode cX5_init 135 = .ok (.aload_n 0, 1) := by decide +kernel
theorem dX5_init_136 : decode cX5_init 136 = .ok (.iconst 4, 1) := by decide +kernel
theorem dX5_init_137 : decode cX5_init 137 = .ok (.newarray .int, 2) := by decide +kernel
theorem dX5_init_139 : decode cX5_init 139 = .ok (.putfield 62, 3) := by decide +kernel
theorem dX5_init_142 : decode cX5_init 142 = .ok (.aload_n 0, 1) := by decide +kernel
theorem dX5_init_143 : decode cX5_init 143 = .ok (.bipush 96, 2) := by decide +kernel
theorem dX5_init_145 : decode cX5_init 145 = .ok (.newarray .int, 2) := by decide +kernel
theorem dX5_init_147 : decode cX5_init 147 = .ok (.putfield 65, 3) := by decide +kernel
theorem dX5_init_150 : decode cX5_init 150 = .ok (.aload_n 0, 1) := by decide +kernel
theorem dX5_init_151 : decode cX5_init 151 = .ok (.sipush 384, 3) := by decide +kernel
theorem dX5_init_154 : decode cX5_init 154 = .ok (.newarray .int, 2) := by decide +kernel
theorem dX5_init_156 : decode cX5_init 156 = .ok (.putfield 68, 3) := by decide +kernel
theorem dX5_init_159 : decode cX5_init 159 = .ok (.return_, 1) := by decide +kernel
theorem dX5_thrown_0 : decode cX5_thrown 0 = .ok (.aload_n 0, 1) := by decide +kernel
theorem dX5_thrown_1 : decode cX5_thrown 1 = .ok (.getfield 71, 3) := by decide +kernel
theorem dX5_thrown_4 : decode cX5_thrown 4 = .ok (.ireturn, 1) := by decide +kernel
theorem dX5_isTable_0 : decode cX5_isTable 0 = .ok (.iload_n 1, 1) := by decide +kernel
theorem dX5_isTable_1 : decode cX5_isTable 1 = .ok (.ifCond .lt 15, 3) := by decide +kernel
theorem dX5_isTable_4 : decode cX5_isTable 4 = .ok (.iload_n 1, 1) := by decide +kernel
theorem dX5_isTable_5 : decode cX5_isTable 5 = .ok (.aload_n 0, 1) := by decide +kernel
theorem dX5_isTable_6 : decode cX5_isTable 6 = .ok (.getfield 75, 3) := by decide +kernel
theorem dX5_isTable_9 : decode cX5_isTable 9 = .ok (.if_icmp .ge 7, 3) := by decide +kernel
theorem dX5_isTable_12 : decode cX5_isTable 12 = .ok (.iconst 1, 1) := by decide +kernel
theorem dX5_isTable_13 : decode cX5_isTable 13 = .ok (.goto 4, 3) := by decide +kernel
theorem dX5_isTable_16 : decode cX5_isTable 16 = .ok (.iconst 0, 1) := by decide +kernel
theorem dX5_isTable_17 : decode cX5_isTable 17 = .ok (.ireturn, 1) := by decide +kernel
set_option maxRecDepth 20000 in
theorem ggX5_isColumn_X5_isTable : GoodIn wsX5_isColumn wsX5_isTable := goodIn_r _ [6, 7, 8, 9, 10, 11, 12, 13, 14, 15, 16, 17, 18, 19, 20, 21, 22, 23, 24, 25, 26, 27, 28, 29, 30, 31, 32, 33, 34, 35, 36, 37, 38] (by decide +kernel) (by decide +kernel)
set_option maxRecDepth 20000 in
theorem gX5_isColumn_X5_isTable : GoodIn wsX5_isColumn (wsV RX5 78 RX5 yX5_isTable wsX5_isTable) := goodIn_app (goodIn_of _ (by decide +kernel)) ggX5_isColumn_X5_isTable
theorem dX5_isColumn_0 : decode cX5_isColumn 0 = .ok (.aload_n 0, 1) := by decide +kernel
theorem dX5_isColumn_1 : decode cX5_isColumn 1 = .ok (.iload_n 1, 1) := by decide +kernel
theorem dX5_isColumn_2 : decode cX5_isColumn 2 = .ok (.invokevirtual 78, 3) := by decide +kernel
theorem dX5_isColumn_5 : decode cX5_isColumn 5 = .ok (.ifCond .eq 21, 3) := by decide +kernel
theorem dX5_isColumn_8 : decode cX5_isColumn 8 = .ok (.iload_n 2, 1) := by decide +kernel
theorem dX5_isColumn_9 : decode cX5_isColumn 9 = .ok (.ifCond .lt 17, 3) := by decide +kernel
theorem dX5_isColumn_12 : decode cX5_isColumn 12 = .ok (.iload_n 2, 1) := by decide +kernel
theorem dX5_isColumn_13 : decode cX5_isColumn 13 = .ok (.aload_n 0, 1) := by decide +kernel
theorem dX5_isColumn_14 : decode cX5_isColumn 14 = .ok (.getfield 7, 3) := by decide +kernel
theorem dX5_isColumn_17 : decode cX5_isColumn 17 = .ok (.iload_n 1, 1) := by decide +kernel
theorem dX5_isColumn_18 : decode cX5_isColumn 18 = .ok (.iaload, 1) := by decide +kernel
theorem dX5_isColumn_19 : decode cX5_isColumn 19 = .ok (.if_icmp .ge 7, 3) := by decide +kernel
theorem dX5_isColumn_22 : decode cX5_isColumn 22 = .ok (.iconst 1, 1) := by decide +kernel
theorem dX5_isColumn_23 : decode cX5_isColumn 23 = .ok (.goto 4, 3) := by decide +kernel
theorem dX5_isColumn_26 : decode cX5_isColumn 26 = .ok (.iconst 0, 1) := by decide +kernel
theorem dX5_isColumn_27 : decode cX5_isColumn 27 = .ok (.ireturn, 1) := by decide +kernel
theorem dX5_table_0 : decode cX5_table 0 = .ok (.aload_n 0, 1) := by decide +kernel
theorem dX5_table_1 : decode cX5_table 1 = .ok (.iload_n 1, 1) := by decide +kernel
theorem dX5_table_2 : decode cX5_table 2 = .ok (.iconst 2, 1) := by decide +kernel
theorem dX5_table_3 : decode cX5_table 3 = .ok (.if_icmp .lt 8, 3) := by decide +kernel
theorem dX5_table_6 : decode cX5_table 6 = .ok (.iload_n 1, 1) := by decide +kernel
theorem dX5_table_7 : decode cX5_table 7 = .ok (.iconst 4, 1) := by decide +kernel
theorem dX5_table_8 : decode cX5_table 8 = .ok (.if_icmp .le 7, 3) := by decide +kernel
theorem dX5_table_11 : decode cX5_table 11 = .ok (.iconst 1, 1) := by decide +kernel
theorem dX5_table_12 : decode cX5_table 12 = .ok (.goto 16, 3) := by decide +kernel
theorem dX5_table_15 : decode cX5_table 15 = .ok (.aload_n 0, 1) := by decide +kernel
theorem dX5_table_16 : decode cX5_table 16 = .ok (.getfield 75, 3) := by decide +kernel
theorem dX5_table_19 : decode cX5_table 19 = .ok (.iconst 4, 1) := by decide +kernel
theorem dX5_table_20 : decode cX5_table 20 = .ok (.if_icmp .ne 7, 3) := by decide +kernel
theorem dX5_table_23 : decode cX5_table 23 = .ok (.iconst 2, 1) := by decide +kernel
theorem dX5_table_24 : decode cX5_table 24 = .ok (.goto 4, 3) := by decide +kernel
theorem dX5_table_27 : decode cX5_table 27 = .ok (.iconst 0, 1) := by decide +kernel
theorem dX5_table_28 : decode cX5_table 28 = .ok (.putfield 71, 3) := by decide +kernel
theorem dX5_table_31 : decode cX5_table 31 = .ok (.aload_n 0, 1) := by decide +kernel
theorem dX5_table_32 : decode cX5_table 32 = .ok (.getfield 71, 3) := by decide +kernel
theorem dX5_table_35 : decode cX5_table 35 = .ok (.ifCond .le 5, 3) := by decide +kernel
theorem dX5_table_38 : decode cX5_table 38 = .ok (.iconst 0, 1) := by decide +kernel
theorem dX5_table_39 : decode cX5_table 39 = .ok (.ireturn, 1) := by decide +kernel
theorem dX5_table_40 : decode cX5_table 40 = .ok (.aload_n 0, 1) := by decide +kernel
theorem dX5_table_41 : decode cX5_table 41 = .ok (.getfield 7, 3) := by decide +kernel
theorem dX5_table_44 : decode cX5_table 44 = .ok (.aload_n 0, 1) := by decide +kernel
theorem dX5_table_45 : decode cX5_table 45 = .ok (.getfield 75, 3) := by decide +kernel
theorem dX5_table_48 : decode cX5_table 48 = .ok (.iload_n 1, 1) := by decide +kernel
theorem dX5_table_49 : decode cX5_table 49 = .ok (.iastore, 1) := by decide +kernel
theorem dX5_table_50 : decode cX5_table 50 = .ok (.aload_n 0, 1) := by decide +kernel
theorem dX5_table_51 : decode cX5_table 51 = .ok (.dup, 1) := by decide +kernel
theorem dX5_table_52 : decode cX5_table 52 = .ok (.getfield 75, 3) := by decide +kernel
theorem dX5_table_55 : decode cX5_table 55 = .ok (.iconst 1, 1) := by decide +kernel
theorem dX5_table_56 : decode cX5_table 56 = .ok (.iadd, 1) := by decide +kernel
theorem dX5_table_57 : decode cX5_table 57 = .ok (.putfield 75, 3) := by decide +kernel
theorem dX5_table_60 : decode cX5_table 60 = .ok (.aload_n 0, 1) := by decide +kernel
theorem dX5_table_61 : decode cX5_table 61 = .ok (.getfield 75, 3) := by decide +kernel
theorem dX5_table_64 : decode cX5_table 64 = .ok (.iconst 1, 1) := by decide +kernel
theorem dX5_table_65 : decode cX5_table 65 = .ok (.isub, 1) := by decide +kernel
theorem dX5_table_66 : decode cX5_table 66 = .ok (.ireturn, 1) := by decide +kernel
theorem dX5_find_0 : decode cX5_find 0 = .ok (.iconst (-1), 1) := by decide +kernel
theorem dX5_find_1 : decode cX5_find 1 = .ok (.istore_n 3, 1) := by decide +kernel
theorem dX5_find_2 : decode cX5_find 2 = .ok (.iconst 0, 1) := by decide +kernel
theorem dX5_find_3 : decode cX5_find 3 = .ok (.istore 4, 2) := by decide +kernel
theorem dX5_find_5 : decode cX5_find 5 = .ok (.iload 4, 2) := by decide +kernel
theorem dX5_find_7 : decode cX5_find 7 = .ok (.aload_n 0, 1) := by decide +kernel
theorem dX5_find_8 : decode cX5_find 8 = .ok (.getfield 82, 3) := by decide +kernel
theorem dX5_find_11 : decode cX5_find 11 = .ok (.if_icmp .ge 40, 3) := by decide +kernel
theorem dX5_find_14 : decode cX5_find 14 = .ok (.aload_n 0, 1) := by decide +kernel
theorem dX5_find_15 : decode cX5_find 15 = .ok (.getfield 13, 3) := by decide +kernel
theorem dX5_find_18 : decode cX5_find 18 = .ok (.iload 4, 2) := by decide +kernel
theorem dX5_find_20 : decode cX5_find 20 = .ok (.iaload, 1) := by decide +kernel
theorem dX5_find_21 : decode cX5_find 21 = .ok (.iload_n 1, 1) := by decide +kernel
theorem dX5_find_22 : decode cX5_find 22 = .ok (.if_icmp .ne 21, 3) := by decide +kernel
theorem dX5_find_25 : decode cX5_find 25 = .ok (.aload_n 0, 1) := by decide +kernel
theorem dX5_find_26 : decode cX5_find 26 = .ok (.getfield 16, 3) := by decide +kernel
theorem dX5_find_29 : decode cX5_find 29 = .ok (.iconst 4, 1) := by decide +kernel
theorem dX5_find_30 : decode cX5_find 30 = .ok (.iload 4, 2) := by decide +kernel
theorem dX5_find_32 : decode cX5_find 32 = .ok (.imul, 1) := by decide +kernel
theorem dX5_find_33 : decode cX5_find 33 = .ok (.iaload, 1) := by decide +kernel
theorem dX5_find_34 : decode cX5_find 34 = .ok (.iload_n 2, 1) := by decide +kernel
theorem dX5_find_35 : decode cX5_find 35 = .ok (.if_icmp .ne 8, 3) := by decide +kernel
theorem dX5_find_38 : decode cX5_find 38 = .ok (.iload 4, 2) := by decide +kernel
theorem dX5_find_40 : decode cX5_find 40 = .ok (.goto 4, 3) := by decide +kernel
theorem dX5_find_43 : decode cX5_find 43 = .ok (.iload_n 3, 1) := by decide +kernel
theorem dX5_find_44 : decode cX5_find 44 = .ok (.istore_n 3, 1) := by decide +kernel
theorem dX5_find_45 : decode cX5_find 45 = .ok (.iinc 4 1, 3) := by decide +kernel
theorem dX5_find_48 : decode cX5_find 48 = .ok (.goto (-43), 3) := by decide +kernel
theorem dX5_find_51 : decode cX5_find 51 = .ok (.iload_n 3, 1) := by decide +kernel
theorem dX5_find_52 : decode cX5_find 52 = .ok (.ireturn, 1) := by decide +kernel
set_option maxRecDepth 20000 in
theorem ggX5_breaksLink_X5_find : GoodIn wsX5_breaksLink wsX5_find := goodIn_r _ [11, 1, 4, 2, 12, 13, 14, 15, 16, 17, 18, 19, 20, 21, 22, 23, 24, 25, 26, 27, 28, 29, 30, 31, 32, 33, 34, 35, 36, 37, 38, 39, 40, 41, 42] (by decide +kernel) (by decide +kernel)
set_option maxRecDepth 20000 in
theorem gX5_breaksLink_X5_find : GoodIn wsX5_breaksLink (wsV RX5 85 RX5 yX5_find wsX5_find) := goodIn_app (goodIn_of _ (by decide +kernel)) ggX5_breaksLink_X5_find
theorem dX5_breaksLink_0 : decode cX5_breaksLink 0 = .ok (.iconst 0, 1) := by decide +kernel
theorem dX5_breaksLink_1 : decode cX5_breaksLink 1 = .ok (.istore_n 2, 1) := by decide +kernel
theorem dX5_breaksLink_2 : decode cX5_breaksLink 2 = .ok (.iload_n 2, 1) := by decide +kernel
theorem dX5_breaksLink_3 : decode cX5_breaksLink 3 = .ok (.aload_n 0, 1) := by decide +kernel
theorem dX5_breaksLink_4 : decode cX5_breaksLink 4 = .ok (.getfield 82, 3) := by decide +kernel
theorem dX5_breaksLink_7 : decode cX5_breaksLink 7 = .ok (.if_icmp .ge 60, 3) := by decide +kernel
theorem dX5_breaksLink_10 : decode cX5_breaksLink 10 = .ok (.aload_n 0, 1) := by decide +kernel
theorem dX5_breaksLink_11 : decode cX5_breaksLink 11 = .ok (.getfield 16, 3) := by decide +kernel
theorem dX5_breaksLink_14 : decode cX5_breaksLink 14 = .ok (.iconst 4, 1) := by decide +kernel
theorem dX5_breaksLink_15 : decode cX5_breaksLink 15 = .ok (.iload_n 2, 1) := by decide +kernel
theorem dX5_breaksLink_16 : decode cX5_breaksLink 16 = .ok (.imul, 1) := by decide +kernel
theorem dX5_breaksLink_17 : decode cX5_breaksLink 17 = .ok (.aload_n 0, 1) := by decide +kernel
theorem dX5_breaksLink_18 : decode cX5_breaksLink 18 = .ok (.getfield 32, 3) := by decide +kernel
theorem dX5_breaksLink_21 : decode cX5_breaksLink 21 = .ok (.iload_n 1, 1) := by decide +kernel
theorem dX5_breaksLink_22 : decode cX5_breaksLink 22 = .ok (.iaload, 1) := by decide +kernel
theorem dX5_breaksLink_23 : decode cX5_breaksLink 23 = .ok (.iadd, 1) := by decide +kernel
theorem dX5_breaksLink_24 : decode cX5_breaksLink 24 = .ok (.iaload, 1) := by decide +kernel
theorem dX5_breaksLink_25 : decode cX5_breaksLink 25 = .ok (.istore_n 3, 1) := by decide +kernel
theorem dX5_breaksLink_26 : decode cX5_breaksLink 26 = .ok (.aload_n 0, 1) := by decide +kernel
theorem dX5_breaksLink_27 : decode cX5_breaksLink 27 = .ok (.getfield 13, 3) := by decide +kernel
theorem dX5_breaksLink_30 : decode cX5_breaksLink 30 = .ok (.iload_n 2, 1) := by decide +kernel
theorem dX5_breaksLink_31 : decode cX5_breaksLink 31 = .ok (.iaload, 1) := by decide +kernel
theorem dX5_breaksLink_32 : decode cX5_breaksLink 32 = .ok (.aload_n 0, 1) := by decide +kernel
theorem dX5_breaksLink_33 : decode cX5_breaksLink 33 = .ok (.getfield 29, 3) := by decide +kernel
theorem dX5_breaksLink_36 : decode cX5_breaksLink 36 = .ok (.iload_n 1, 1) := by decide +kernel
theorem dX5_breaksLink_37 : decode cX5_breaksLink 37 = .ok (.iaload, 1) := by decide +kernel
theorem dX5_breaksLink_38 : decode cX5_breaksLink 38 = .ok (.if_icmp .ne 23, 3) := by decide +kernel
theorem dX5_breaksLink_41 : decode cX5_breaksLink 41 = .ok (.iload_n 3, 1) := by decide +kernel
theorem dX5_breaksLink_42 : decode cX5_breaksLink 42 = .ok (.ifCond .eq 19, 3) := by decide +kernel
theorem dX5_breaksLink_45 : decode cX5_breaksLink 45 = .ok (.aload_n 0, 1) := by decide +kernel
theorem dX5_breaksLink_46 : decode cX5_breaksLink 46 = .ok (.aload_n 0, 1) := by decide +kernel
theorem dX5_breaksLink_47 : decode cX5_breaksLink 47 = .ok (.getfield 35, 3) := by decide +kernel
theorem dX5_breaksLink_50 : decode cX5_breaksLink 50 = .ok (.iload_n 1, 1) := by decide +kernel
theorem dX5_breaksLink_51 : decode cX5_breaksLink 51 = .ok (.iaload, 1) := by decide +kernel
theorem dX5_breaksLink_52 : decode cX5_breaksLink 52 = .ok (.iload_n 3, 1) := by decide +kernel
theorem dX5_breaksLink_53 : decode cX5_breaksLink 53 = .ok (.invokevirtual 85, 3) := by decide +kernel
theorem dX5_breaksLink_56 : decode cX5_breaksLink 56 = .ok (.ifCond .ge 5, 3) := by decide +kernel
theorem dX5_breaksLink_59 : decode cX5_breaksLink 59 = .ok (.iconst 1, 1) := by decide +kernel
theorem dX5_breaksLink_60 : decode cX5_breaksLink 60 = .ok (.ireturn, 1) := by decide +kernel
theorem dX5_breaksLink_61 : decode cX5_breaksLink 61 = .ok (.iinc 2 1, 3) := by decide +kernel
theorem dX5_breaksLink_64 : decode cX5_breaksLink 64 = .ok (.goto (-62), 3) := by decide +kernel
theorem dX5_breaksLink_67 : decode cX5_breaksLink 67 = .ok (.iconst 0, 1) := by decide +kernel
theorem dX5_breaksLink_68 : decode cX5_breaksLink 68 = .ok (.ireturn, 1) := by decide +kernel
theorem dX5_twice_0 : decode cX5_twice 0 = .ok (.iconst 0, 1) := by decide +kernel
theorem dX5_twice_1 : decode cX5_twice 1 = .ok (.istore_n 3, 1) := by decide +kernel
theorem dX5_twice_2 : decode cX5_twice 2 = .ok (.iload_n 3, 1) := by decide +kernel
theorem dX5_twice_3 : decode cX5_twice 3 = .ok (.aload_n 0, 1) := by decide +kernel
theorem dX5_twice_4 : decode cX5_twice 4 = .ok (.getfield 82, 3) := by decide +kernel
theorem dX5_twice_7 : decode cX5_twice 7 = .ok (.if_icmp .ge 84, 3) := by decide +kernel
theorem dX5_twice_10 : decode cX5_twice 10 = .ok (.iconst 0, 1) := by decide +kernel
theorem dX5_twice_11 : decode cX5_twice 11 = .ok (.istore 4, 2) := by decide +kernel
theorem dX5_twice_13 : decode cX5_twice 13 = .ok (.iload 4, 2) := by decide +kernel
theorem dX5_twice_15 : decode cX5_twice 15 = .ok (.iload_n 3, 1) := by decide +kernel
theorem dX5_twice_16 : decode cX5_twice 16 = .ok (.if_icmp .ge 69, 3) := by decide +kernel
theorem dX5_twice_19 : decode cX5_twice 19 = .ok (.aload_n 0, 1) := by decide +kernel
theorem dX5_twice_20 : decode cX5_twice 20 = .ok (.getfield 13, 3) := by decide +kernel
theorem dX5_twice_23 : decode cX5_twice 23 = .ok (.iload_n 3, 1) := by decide +kernel
theorem dX5_twice_24 : decode cX5_twice 24 = .ok (.iaload, 1) := by decide +kernel
theorem dX5_twice_25 : decode cX5_twice 25 = .ok (.iload_n 1, 1) := by decide +kernel
theorem dX5_twice_26 : decode cX5_twice 26 = .ok (.if_icmp .ne 53, 3) := by decide +kernel
theorem dX5_twice_29 : decode cX5_twice 29 = .ok (.aload_n 0, 1) := by decide +kernel
theorem dX5_twice_30 : decode cX5_twice 30 = .ok (.getfield 13, 3) := by decide +kernel
theorem dX5_twice_33 : decode cX5_twice 33 = .ok (.iload 4, 2) := by decide +kernel
theorem dX5_twice_35 : decode cX5_twice 35 = .ok (.iaload, 1) := by decide +kernel
theorem dX5_twice_36 : decode cX5_twice 36 = .ok (.iload_n 1, 1) := by decide +kernel
theorem dX5_twice_37 : decode cX5_twice 37 = .ok (.if_icmp .ne 42, 3) := by decide +kernel
theorem dX5_twice_40 : decode cX5_twice 40 = .ok (.aload_n 0, 1) := by decide +kernel
theorem dX5_twice_41 : decode cX5_twice 41 = .ok (.getfield 16, 3) := by decide +kernel
theorem dX5_twice_44 : decode cX5_twice 44 = .ok (.iconst 4, 1) := by decide +kernel
theorem dX5_twice_45 : decode cX5_twice 45 = .ok (.iload_n 3, 1) := by decide +kernel
theorem dX5_twice_46 : decode cX5_twice 46 = .ok (.imul, 1) := by decide +kernel
theorem dX5_twice_47 : decode cX5_twice 47 = .ok (.iload_n 2, 1) := by decide +kernel
theorem dX5_twice_48 : decode cX5_twice 48 = .ok (.iadd, 1) := by decide +kernel
theorem dX5_twice_49 : decode cX5_twice 49 = .ok (.iaload, 1) := by decide +kernel
theorem dX5_twice_50 : decode cX5_twice 50 = .ok (.aload_n 0, 1) := by decide +kernel
theorem dX5_twice_51 : decode cX5_twice 51 = .ok (.getfield 16, 3) := by decide +kernel
theorem dX5_twice_54 : decode cX5_twice 54 = .ok (.iconst 4, 1) := by decide +kernel
theorem dX5_twice_55 : decode cX5_twice 55 = .ok (.iload 4, 2) := by decide +kernel
theorem dX5_twice_57 : decode cX5_twice 57 = .ok (.imul, 1) := by decide +kernel
theorem dX5_twice_58 : decode cX5_twice 58 = .ok (.iload_n 2, 1) := by decide +kernel
theorem dX5_twice_59 : decode cX5_twice 59 = .ok (.iadd, 1) := by decide +kernel
theorem dX5_twice_60 : decode cX5_twice 60 = .ok (.iaload, 1) := by decide +kernel
theorem dX5_twice_61 : decode cX5_twice 61 = .ok (.if_icmp .ne 18, 3) := by decide +kernel
theorem dX5_twice_64 : decode cX5_twice 64 = .ok (.aload_n 0, 1) := by decide +kernel
theorem dX5_twice_65 : decode cX5_twice 65 = .ok (.getfield 16, 3) := by decide +kernel
theorem dX5_twice_68 : decode cX5_twice 68 = .ok (.iconst 4, 1) := by decide +kernel
theorem dX5_twice_69 : decode cX5_twice 69 = .ok (.iload_n 3, 1) := by decide +kernel
theorem dX5_twice_70 : decode cX5_twice 70 = .ok (.imul, 1) := by decide +kernel
theorem dX5_twice_71 : decode cX5_twice 71 = .ok (.iload_n 2, 1) := by decide +kernel
theorem dX5_twice_72 : decode cX5_twice 72 = .ok (.iadd, 1) := by decide +kernel
theorem dX5_twice_73 : decode cX5_twice 73 = .ok (.iaload, 1) := by decide +kernel
theorem dX5_twice_74 : decode cX5_twice 74 = .ok (.ifCond .eq 5, 3) := by decide +kernel
theorem dX5_twice_77 : decode cX5_twice 77 = .ok (.iconst 1, 1) := by decide +kernel
theorem dX5_twice_78 : decode cX5_twice 78 = .ok (.ireturn, 1) := by decide +kernel
theorem dX5_twice_79 : decode cX5_twice 79 = .ok (.iinc 4 1, 3) := by decide +kernel
theorem dX5_twice_82 : decode cX5_twice 82 = .ok (.goto (-69), 3) := by decide +kernel
theorem dX5_twice_85 : decode cX5_twice 85 = .ok (.iinc 3 1, 3) := by decide +kernel
theorem dX5_twice_88 : decode cX5_twice 88 = .ok (.goto (-86), 3) := by decide +kernel
theorem dX5_twice_91 : decode cX5_twice 91 = .ok (.iconst 0, 1) := by decide +kernel
theorem dX5_twice_92 : decode cX5_twice 92 = .ok (.ireturn, 1) := by decide +kernel
theorem dX5_reckon_0 : decode cX5_reckon 0 = .ok (.iload_n 0, 1) := by decide +kernel
theorem dX5_reckon_1 : decode cX5_reckon 1 = .ok (.tableswitch 87 10 15 #[39, 43, 47, 51, 62, 73], 39) := by decide +kernel
theorem dX5_reckon_40 : decode cX5_reckon 40 = .ok (.iload_n 1, 1) := by decide +kernel
theorem dX5_reckon_41 : decode cX5_reckon 41 = .ok (.iload_n 2, 1) := by decide +kernel
theorem dX5_reckon_42 : decode cX5_reckon 42 = .ok (.iadd, 1) := by decide +kernel
theorem dX5_reckon_43 : decode cX5_reckon 43 = .ok (.ireturn, 1) := by decide +kernel
theorem dX5_reckon_44 : decode cX5_reckon 44 = .ok (.iload_n 1, 1) := by decide +kernel
theorem dX5_reckon_45 : decode cX5_reckon 45 = .ok (.iload_n 2, 1) := by decide +kernel
theorem dX5_reckon_46 : decode cX5_reckon 46 = .ok (.isub, 1) := by decide +kernel
theorem dX5_reckon_47 : decode cX5_reckon 47 = .ok (.ireturn, 1) := by decide +kernel
theorem dX5_reckon_48 : decode cX5_reckon 48 = .ok (.iload_n 1, 1) := by decide +kernel
theorem dX5_reckon_49 : decode cX5_reckon 49 = .ok (.iload_n 2, 1) := by decide +kernel
theorem dX5_reckon_50 : decode cX5_reckon 50 = .ok (.imul, 1) := by decide +kernel
theorem dX5_reckon_51 : decode cX5_reckon 51 = .ok (.ireturn, 1) := by decide +kernel
theorem dX5_reckon_52 : decode cX5_reckon 52 = .ok (.iload_n 1, 1) := by decide +kernel
theorem dX5_reckon_53 : decode cX5_reckon 53 = .ok (.iload_n 2, 1) := by decide +kernel
theorem dX5_reckon_54 : decode cX5_reckon 54 = .ok (.if_icmp .ge 7, 3) := by decide +kernel
theorem dX5_reckon_57 : decode cX5_reckon 57 = .ok (.iconst 1, 1) := by decide +kernel
theorem dX5_reckon_58 : decode cX5_reckon 58 = .ok (.goto 4, 3) := by decide +kernel
theorem dX5_reckon_61 : decode cX5_reckon 61 = .ok (.iconst 0, 1) := by decide +kernel
theorem dX5_reckon_62 : decode cX5_reckon 62 = .ok (.ireturn, 1) := by decide +kernel
theorem dX5_reckon_63 : decode cX5_reckon 63 = .ok (.iload_n 1, 1) := by decide +kernel
theorem dX5_reckon_64 : decode cX5_reckon 64 = .ok (.iload_n 2, 1) := by decide +kernel
theorem dX5_reckon_65 : decode cX5_reckon 65 = .ok (.if_icmp .ne 7, 3) := by decide +kernel
theorem dX5_reckon_68 : decode cX5_reckon 68 = .ok (.iconst 1, 1) := by decide +kernel
theorem dX5_reckon_69 : decode cX5_reckon 69 = .ok (.goto 4, 3) := by decide +kernel
theorem dX5_reckon_72 : decode cX5_reckon 72 = .ok (.iconst 0, 1) := by decide +kernel
theorem dX5_reckon_73 : decode cX5_reckon 73 = .ok (.ireturn, 1) := by decide +kernel
theorem dX5_reckon_74 : decode cX5_reckon 74 = .ok (.iload_n 1, 1) := by decide +kernel
theorem dX5_reckon_75 : decode cX5_reckon 75 = .ok (.ifCond .eq 11, 3) := by decide +kernel
theorem dX5_reckon_78 : decode cX5_reckon 78 = .ok (.iload_n 2, 1) := by decide +kernel
theorem dX5_reckon_79 : decode cX5_reckon 79 = .ok (.ifCond .eq 7, 3) := by decide +kernel
theorem dX5_reckon_82 : decode cX5_reckon 82 = .ok (.iconst 1, 1) := by decide +kernel
theorem dX5_reckon_83 : decode cX5_reckon 83 = .ok (.goto 4, 3) := by decide +kernel
theorem dX5_reckon_86 : decode cX5_reckon 86 = .ok (.iconst 0, 1) := by decide +kernel
theorem dX5_reckon_87 : decode cX5_reckon 87 = .ok (.ireturn, 1) := by decide +kernel
theorem dX5_reckon_88 : decode cX5_reckon 88 = .ok (.iload_n 1, 1) := by decide +kernel
theorem dX5_reckon_89 : decode cX5_reckon 89 = .ok (.ifCond .ne 7, 3) := by decide +kernel
theorem dX5_reckon_92 : decode cX5_reckon 92 = .ok (.iload_n 2, 1) := by decide +kernel
theorem dX5_reckon_93 : decode cX5_reckon 93 = .ok (.ifCond .eq 7, 3) := by decide +kernel
theorem dX5_reckon_96 : decode cX5_reckon 96 = .ok (.iconst 1, 1) := by decide +kernel
theorem dX5_reckon_97 : decode cX5_reckon 97 = .ok (.goto 4, 3) := by decide +kernel
theorem dX5_reckon_100 : decode cX5_reckon 100 = .ok (.iconst 0, 1) := by decide +kernel
theorem dX5_reckon_101 : decode cX5_reckon 101 = .ok (.ireturn, 1) := by decide +kernel
set_option maxRecDepth 20000 in
theorem ggX5_result_X5_reckon : GoodIn wsX5_result wsX5_reckon := goodIn_r _ [9] (by decide +kernel) (by decide +kernel)
set_option maxRecDepth 20000 in
theorem gX5_result_X5_reckon : GoodIn wsX5_result (va_wsS RX5 92 yX5_reckon wsX5_reckon) := goodIn_app (goodIn_of _ (by decide +kernel)) ggX5_result_X5_reckon
theorem dX5_result_0 : decode cX5_result 0 = .ok (.aload_n 0, 1) := by decide +kernel
theorem dX5_result_1 : decode cX5_result 1 = .ok (.iconst 0, 1) := by decide +kernel
theorem dX5_result_2 : decode cX5_result 2 = .ok (.putfield 89, 3) := by decide +kernel
theorem dX5_result_5 : decode cX5_result 5 = .ok (.iconst 0, 1) := by decide +kernel
theorem dX5_result_6 : decode cX5_result 6 = .ok (.istore_n 3, 1) := by decide +kernel
theorem dX5_result_7 : decode cX5_result 7 = .ok (.iload_n 3, 1) := by decide +kernel
theorem dX5_result_8 : decode cX5_result 8 = .ok (.aload_n 0, 1) := by decide +kernel
theorem dX5_result_9 : decode cX5_result 9 = .ok (.getfield 50, 3) := by decide +kernel
theorem dX5_result_12 : decode cX5_result 12 = .ok (.iload_n 1, 1) := by decide +kernel
theorem dX5_result_13 : decode cX5_result 13 = .ok (.iaload, 1) := by decide +kernel
theorem dX5_result_14 : decode cX5_result 14 = .ok (.if_icmp .ge 169, 3) := by decide +kernel
theorem dX5_result_17 : decode cX5_result 17 = .ok (.aload_n 0, 1) := by decide +kernel
theorem dX5_result_18 : decode cX5_result 18 = .ok (.getfield 53, 3) := by decide +kernel
theorem dX5_result_21 : decode cX5_result 21 = .ok (.bipush 10, 2) := by decide +kernel
theorem dX5_result_23 : decode cX5_result 23 = .ok (.iload_n 1, 1) := by decide +kernel
theorem dX5_result_24 : decode cX5_result 24 = .ok (.imul, 1) := by decide +kernel
theorem dX5_result_25 : decode cX5_result 25 = .ok (.iload_n 3, 1) := by decide +kernel
theorem dX5_result_26 : decode cX5_result 26 = .ok (.iadd, 1) := by decide +kernel
theorem dX5_result_27 : decode cX5_result 27 = .ok (.iaload, 1) := by decide +kernel
theorem dX5_result_28 : decode cX5_result 28 = .ok (.istore 4, 2) := by decide +kernel
theorem dX5_result_30 : decode cX5_result 30 = .ok (.iload 4, 2) := by decide +kernel
theorem dX5_result_32 : decode cX5_result 32 = .ok (.iconst 4, 1) := by decide +kernel
theorem dX5_result_33 : decode cX5_result 33 = .ok (.if_icmp .lt 10, 3) := by decide +kernel
theorem dX5_result_36 : decode cX5_result 36 = .ok (.iload 4, 2) := by decide +kernel
theorem dX5_result_38 : decode cX5_result 38 = .ok (.bipush 100, 2) := by decide +kernel
theorem dX5_result_40 : decode cX5_result 40 = .ok (.if_icmp .lt 51, 3) := by decide +kernel
theorem dX5_result_43 : decode cX5_result 43 = .ok (.aload_n 0, 1) := by decide +kernel
theorem dX5_result_44 : decode cX5_result 44 = .ok (.getfield 59, 3) := by decide +kernel
theorem dX5_result_47 : decode cX5_result 47 = .ok (.aload_n 0, 1) := by decide +kernel
theorem dX5_result_48 : decode cX5_result 48 = .ok (.getfield 89, 3) := by decide +kernel
theorem dX5_result_51 : decode cX5_result 51 = .ok (.iload 4, 2) := by decide +kernel
theorem dX5_result_53 : decode cX5_result 53 = .ok (.iconst 4, 1) := by decide +kernel
theorem dX5_result_54 : decode cX5_result 54 = .ok (.if_icmp .ge 17, 3) := by decide +kernel
theorem dX5_result_57 : decode cX5_result 57 = .ok (.aload_n 0, 1) := by decide +kernel
theorem dX5_result_58 : decode cX5_result 58 = .ok (.getfield 16, 3) := by decide +kernel
theorem dX5_result_61 : decode cX5_result 61 = .ok (.iconst 4, 1) := by decide +kernel
theorem dX5_result_62 : decode cX5_result 62 = .ok (.iload_n 2, 1) := by decide +kernel
theorem dX5_result_63 : decode cX5_result 63 = .ok (.imul, 1) := by decide +kernel
theorem dX5_result_64 : decode cX5_result 64 = .ok (.iload 4, 2) := by decide +kernel
theorem dX5_result_66 : decode cX5_result 66 = .ok (.iadd, 1) := by decide +kernel
theorem dX5_result_67 : decode cX5_result 67 = .ok (.iaload, 1) := by decide +kernel
theorem dX5_result_68 : decode cX5_result 68 = .ok (.goto 9, 3) := by decide +kernel
theorem dX5_result_71 : decode cX5_result 71 = .ok (.iload 4, 2) := by decide +kernel
theorem dX5_result_73 : decode cX5_result 73 = .ok (.sipush 200, 3) := by decide +kernel
theorem dX5_result_76 : decode cX5_result 76 = .ok (.isub, 1) := by decide +kernel
theorem dX5_result_77 : decode cX5_result 77 = .ok (.iastore, 1) := by decide +kernel
theorem dX5_result_78 : decode cX5_result 78 = .ok (.aload_n 0, 1) := by decide +kernel
theorem dX5_result_79 : decode cX5_result 79 = .ok (.dup, 1) := by decide +kernel
theorem dX5_result_80 : decode cX5_result 80 = .ok (.getfield 89, 3) := by decide +kernel
theorem dX5_result_83 : decode cX5_result 83 = .ok (.iconst 1, 1) := by decide +kernel
theorem dX5_result_84 : decode cX5_result 84 = .ok (.iadd, 1) := by decide +kernel
theorem dX5_result_85 : decode cX5_result 85 = .ok (.putfield 89, 3) := by decide +kernel
theorem dX5_result_88 : decode cX5_result 88 = .ok (.goto 89, 3) := by decide +kernel
theorem dX5_result_91 : decode cX5_result 91 = .ok (.iload 4, 2) := by decide +kernel
theorem dX5_result_93 : decode cX5_result 93 = .ok (.bipush 17, 2) := by decide +kernel
theorem dX5_result_95 : decode cX5_result 95 = .ok (.if_icmp .ne 36, 3) := by decide +kernel
theorem dX5_result_98 : decode cX5_result 98 = .ok (.aload_n 0, 1) := by decide +kernel
theorem dX5_result_99 : decode cX5_result 99 = .ok (.getfield 59, 3) := by decide +kernel
theorem dX5_result_102 : decode cX5_result 102 = .ok (.aload_n 0, 1) := by decide +kernel
theorem dX5_result_103 : decode cX5_result 103 = .ok (.getfield 89, 3) := by decide +kernel
theorem dX5_result_106 : decode cX5_result 106 = .ok (.iconst 1, 1) := by decide +kernel
theorem dX5_result_107 : decode cX5_result 107 = .ok (.isub, 1) := by decide +kernel
theorem dX5_result_108 : decode cX5_result 108 = .ok (.aload_n 0, 1) := by decide +kernel
theorem dX5_result_109 : decode cX5_result 109 = .ok (.getfield 59, 3) := by decide +kernel
theorem dX5_result_112 : decode cX5_result 112 = .ok (.aload_n 0, 1) := by decide +kernel
theorem dX5_result_113 : decode cX5_result 113 = .ok (.getfield 89, 3) := by decide +kernel
theorem dX5_result_116 : decode cX5_result 116 = .ok (.iconst 1, 1) := by decide +kernel
theorem dX5_result_117 : decode cX5_result 117 = .ok (.isub, 1) := by decide +kernel
theorem dX5_result_118 : decode cX5_result 118 = .ok (.iaload, 1) := by decide +kernel
theorem dX5_result_119 : decode cX5_result 119 = .ok (.ifCond .ne 7, 3) := by decide +kernel
theorem dX5_result_122 : decode cX5_result 122 = .ok (.iconst 1, 1) := by decide +kernel
theorem dX5_result_123 : decode cX5_result 123 = .ok (.goto 4, 3) := by decide +kernel
theorem dX5_result_126 : decode cX5_result 126 = .ok (.iconst 0, 1) := by decide +kernel
theorem dX5_result_127 : decode cX5_result 127 = .ok (.iastore, 1) := by decide +kernel
theorem dX5_result_128 : decode cX5_result 128 = .ok (.goto 49, 3) := by decide +kernel
theorem dX5_result_131 : decode cX5_result 131 = .ok (.aload_n 0, 1) := by decide +kernel
theorem dX5_result_132 : decode cX5_result 132 = .ok (.dup, 1) := by decide +kernel
theorem dX5_result_133 : decode cX5_result 133 = .ok (.getfield 89, 3) := by decide +kernel
theorem dX5_result_136 : decode cX5_result 136 = .ok (.iconst 1, 1) := by decide +kernel
theorem dX5_result_137 : decode cX5_result 137 = .ok (.isub, 1) := by decide +kernel
theorem dX5_result_138 : decode cX5_result 138 = .ok (.putfield 89, 3) := by decide +kernel
theorem dX5_result_141 : decode cX5_result 141 = .ok (.aload_n 0, 1) := by decide +kernel
theorem dX5_result_142 : decode cX5_result 142 = .ok (.getfield 59, 3) := by decide +kernel
theorem dX5_result_145 : decode cX5_result 145 = .ok (.aload_n 0, 1) := by decide +kernel
theorem dX5_result_146 : decode cX5_result 146 = .ok (.getfield 89, 3) := by decide +kernel
theorem dX5_result_149 : decode cX5_result 149 = .ok (.iconst 1, 1) := by decide +kernel
theorem dX5_result_150 : decode cX5_result 150 = .ok (.isub, 1) := by decide +kernel
theorem dX5_result_151 : decode cX5_result 151 = .ok (.iload 4, 2) := by decide +kernel
theorem dX5_result_153 : decode cX5_result 153 = .ok (.aload_n 0, 1) := by decide +kernel
theorem dX5_result_154 : decode cX5_result 154 = .ok (.getfield 59, 3) := by decide +kernel
theorem dX5_result_157 : decode cX5_result 157 = .ok (.aload_n 0, 1) := by decide +kernel
theorem dX5_result_158 : decode cX5_result 158 = .ok (.getfield 89, 3) := by decide +kernel
theorem dX5_result_161 : decode cX5_result 161 = .ok (.iconst 1, 1) := by decide +kernel
theorem dX5_result_162 : decode cX5_result 162 = .ok (.isub, 1) := by decide +kernel
theorem dX5_result_163 : decode cX5_result 163 = .ok (.iaload, 1) := by decide +kernel
theorem dX5_result_164 : decode cX5_result 164 = .ok (.aload_n 0, 1) := by decide +kernel
theorem dX5_result_165 : decode cX5_result 165 = .ok (.getfield 59, 3) := by decide +kernel
theorem dX5_result_168 : decode cX5_result 168 = .ok (.aload_n 0, 1) := by decide +kernel
theorem dX5_result_169 : decode cX5_result 169 = .ok (.getfield 89, 3) := by decide +kernel
theorem dX5_result_172 : decode cX5_result 172 = .ok (.iaload, 1) := by decide +kernel
theorem dX5_result_173 : decode cX5_result 173 = .ok (.invokestatic 92, 3) := by decide +kernel
theorem dX5_result_176 : decode cX5_result 176 = .ok (.iastore, 1) := by decide +kernel
theorem dX5_result_177 : decode cX5_result 177 = .ok (.iinc 3 1, 3) := by decide +kernel
theorem dX5_result_180 : decode cX5_result 180 = .ok (.goto (-173), 3) := by decide +kernel
theorem dX5_result_183 : decode cX5_result 183 = .ok (.aload_n 0, 1) := by decide +kernel
theorem dX5_result_184 : decode cX5_result 184 = .ok (.getfield 59, 3) := by decide +kernel
theorem dX5_result_187 : decode cX5_result 187 = .ok (.iconst 0, 1) := by decide +kernel
theorem dX5_result_188 : decode cX5_result 188 = .ok (.iaload, 1) := by decide +kernel
theorem dX5_result_189 : decode cX5_result 189 = .ok (.ireturn, 1) := by decide +kernel
set_option maxRecDepth 20000 in
theorem ggX5_breaksCheck_X5_result : GoodIn wsX5_breaksCheck wsX5_result := goodIn_r _ [8, 9, 10, 11, 12, 13, 14, 15, 7, 16, 17, 18, 19, 20, 21, 22, 23, 24, 25, 26, 27, 28, 29, 30, 31, 32, 33, 34, 35, 36, 37, 38, 39, 40, 41, 42, 43, 44, 45, 46, 47] (by decide +kernel) (by decide +kernel)
set_option maxRecDepth 20000 in
theorem gX5_breaksCheck_X5_result : GoodIn wsX5_breaksCheck (wsV RX5 96 RX5 yX5_result wsX5_result) := goodIn_app (goodIn_of _ (by decide +kernel)) ggX5_breaksCheck_X5_result
theorem dX5_breaksCheck_0 : decode cX5_breaksCheck 0 = .ok (.iconst 0, 1) := by decide +kernel
theorem dX5_breaksCheck_1 : decode cX5_breaksCheck 1 = .ok (.istore_n 2, 1) := by decide +kernel
theorem dX5_breaksCheck_2 : decode cX5_breaksCheck 2 = .ok (.iconst 0, 1) := by decide +kernel
theorem dX5_breaksCheck_3 : decode cX5_breaksCheck 3 = .ok (.istore_n 3, 1) := by decide +kernel
theorem dX5_breaksCheck_4 : decode cX5_breaksCheck 4 = .ok (.iload_n 3, 1) := by decide +kernel
theorem dX5_breaksCheck_5 : decode cX5_breaksCheck 5 = .ok (.aload_n 0, 1) := by decide +kernel
theorem dX5_breaksCheck_6 : decode cX5_breaksCheck 6 = .ok (.getfield 82, 3) := by decide +kernel
theorem dX5_breaksCheck_9 : decode cX5_breaksCheck 9 = .ok (.if_icmp .ge 43, 3) := by decide +kernel
theorem dX5_breaksCheck_12 : decode cX5_breaksCheck 12 = .ok (.iload_n 2, 1) := by decide +kernel
theorem dX5_breaksCheck_13 : decode cX5_breaksCheck 13 = .ok (.ifCond .ne 27, 3) := by decide +kernel
theorem dX5_breaksCheck_16 : decode cX5_breaksCheck 16 = .ok (.aload_n 0, 1) := by decide +kernel
theorem dX5_breaksCheck_17 : decode cX5_breaksCheck 17 = .ok (.getfield 13, 3) := by decide +kernel
theorem dX5_breaksCheck_20 : decode cX5_breaksCheck 20 = .ok (.iload_n 3, 1) := by decide +kernel
theorem dX5_breaksCheck_21 : decode cX5_breaksCheck 21 = .ok (.iaload, 1) := by decide +kernel
theorem dX5_breaksCheck_22 : decode cX5_breaksCheck 22 = .ok (.aload_n 0, 1) := by decide +kernel
theorem dX5_breaksCheck_23 : decode cX5_breaksCheck 23 = .ok (.getfield 47, 3) := by decide +kernel
theorem dX5_breaksCheck_26 : decode cX5_breaksCheck 26 = .ok (.iload_n 1, 1) := by decide +kernel
theorem dX5_breaksCheck_27 : decode cX5_breaksCheck 27 = .ok (.iaload, 1) := by decide +kernel
theorem dX5_breaksCheck_28 : decode cX5_breaksCheck 28 = .ok (.if_icmp .ne 16, 3) := by decide +kernel
theorem dX5_breaksCheck_31 : decode cX5_breaksCheck 31 = .ok (.aload_n 0, 1) := by decide +kernel
theorem dX5_breaksCheck_32 : decode cX5_breaksCheck 32 = .ok (.iload_n 1, 1) := by decide +kernel
theorem dX5_breaksCheck_33 : decode cX5_breaksCheck 33 = .ok (.iload_n 3, 1) := by decide +kernel
theorem dX5_breaksCheck_34 : decode cX5_breaksCheck 34 = .ok (.invokevirtual 96, 3) := by decide +kernel
theorem dX5_breaksCheck_37 : decode cX5_breaksCheck 37 = .ok (.ifCond .ne 7, 3) := by decide +kernel
theorem dX5_breaksCheck_40 : decode cX5_breaksCheck 40 = .ok (.iconst 1, 1) := by decide +kernel
theorem dX5_breaksCheck_41 : decode cX5_breaksCheck 41 = .ok (.goto 4, 3) := by decide +kernel
theorem dX5_breaksCheck_44 : decode cX5_breaksCheck 44 = .ok (.iconst 0, 1) := by decide +kernel
theorem dX5_breaksCheck_45 : decode cX5_breaksCheck 45 = .ok (.istore_n 2, 1) := by decide +kernel
theorem dX5_breaksCheck_46 : decode cX5_breaksCheck 46 = .ok (.iinc 3 1, 3) := by decide +kernel
theorem dX5_breaksCheck_49 : decode cX5_breaksCheck 49 = .ok (.goto (-45), 3) := by decide +kernel
theorem dX5_breaksCheck_52 : decode cX5_breaksCheck 52 = .ok (.iload_n 2, 1) := by decide +kernel
theorem dX5_breaksCheck_53 : decode cX5_breaksCheck 53 = .ok (.ireturn, 1) := by decide +kernel
set_option maxRecDepth 20000 in
theorem ggX5_wrong_X5_twice : GoodIn wsX5_wrong wsX5_twice := goodIn_r _ [11, 12, 13, 14, 42, 43, 44, 45, 46, 47, 48, 49, 50, 51, 52, 53, 54, 55, 56, 57, 58, 59, 60, 61, 62, 63, 64, 65, 66, 67, 68, 69, 70, 71, 72] (by decide +kernel) (by decide +kernel)
set_option maxRecDepth 20000 in
theorem gX5_wrong_X5_twice : GoodIn wsX5_wrong (wsV RX5 99 RX5 yX5_twice wsX5_twice) := goodIn_app (goodIn_of _ (by decide +kernel)) ggX5_wrong_X5_twice
set_option maxRecDepth 20000 in
theorem ggX5_wrong_X5_breaksLink : GoodIn wsX5_wrong wsX5_breaksLink := goodIn_r _ [18, 12, 14, 19, 13, 20, 21, 22, 23, 24, 10, 25, 42, 43, 44, 45, 46, 47, 48, 49, 50, 51, 52, 53, 54, 55, 56, 57, 58, 59, 60, 61, 62, 63, 64, 65, 66, 67, 68, 69, 70, 71, 72] (by decide +kernel) (by decide +kernel)
set_option maxRecDepth 20000 in
theorem gX5_wrong_X5_breaksLink : GoodIn wsX5_wrong (wsV RX5 109 RX5 yX5_breaksLink wsX5_breaksLink) := goodIn_app (goodIn_of _ (by decide +kernel)) ggX5_wrong_X5_breaksLink
set_option maxRecDepth 20000 in
theorem ggX5_wrong_X5_breaksCheck : GoodIn wsX5_wrong wsX5_breaksCheck := goodIn_r _ [29, 12, 13, 30, 31, 32, 33, 10, 34, 35, 36, 37, 38, 14, 39, 40, 41, 42, 43, 44, 45, 46, 47, 48, 49, 50, 51, 52, 53, 54, 55, 56, 57, 58, 59, 60, 61, 62, 63, 64, 65, 66, 67, 68, 69, 70, 71, 72] (by decide +kernel) (by decide +kernel)
set_option maxRecDepth 20000 in
theorem gX5_wrong_X5_breaksCheck : GoodIn wsX5_wrong (wsV RX5 115 RX5 yX5_breaksCheck wsX5_breaksCheck) := goodIn_app (goodIn_of _ (by decide +kernel)) ggX5_wrong_X5_breaksCheck
theorem dX5_wrong_0 : decode cX5_wrong 0 = .ok (.iconst 0, 1) := by decide +kernel
theorem dX5_wrong_1 : decode cX5_wrong 1 = .ok (.istore_n 1, 1) := by decide +kernel
theorem dX5_wrong_2 : decode cX5_wrong 2 = .ok (.iload_n 1, 1) := by decide +kernel
theorem dX5_wrong_3 : decode cX5_wrong 3 = .ok (.aload_n 0, 1) := by decide +kernel
theorem dX5_wrong_4 : decode cX5_wrong 4 = .ok (.getfield 75, 3) := by decide +kernel
theorem dX5_wrong_7 : decode cX5_wrong 7 = .ok (.if_icmp .ge 24, 3) := by decide +kernel
theorem dX5_wrong_10 : decode cX5_wrong 10 = .ok (.aload_n 0, 1) := by decide +kernel
theorem dX5_wrong_11 : decode cX5_wrong 11 = .ok (.iload_n 1, 1) := by decide +kernel
theorem dX5_wrong_12 : decode cX5_wrong 12 = .ok (.iconst 0, 1) := by decide +kernel
theorem dX5_wrong_13 : decode cX5_wrong 13 = .ok (.invokevirtual 99, 3) := by decide +kernel
theorem dX5_wrong_16 : decode cX5_wrong 16 = .ok (.ifCond .eq 9, 3) := by decide +kernel
theorem dX5_wrong_19 : decode cX5_wrong 19 = .ok (.sipush 200, 3) := by decide +kernel
theorem dX5_wrong_22 : decode cX5_wrong 22 = .ok (.iload_n 1, 1) := by decide +kernel
theorem dX5_wrong_23 : decode cX5_wrong 23 = .ok (.iadd, 1) := by decide +kernel
theorem dX5_wrong_24 : decode cX5_wrong 24 = .ok (.ireturn, 1) := by decide +kernel
theorem dX5_wrong_25 : decode cX5_wrong 25 = .ok (.iinc 1 1, 3) := by decide +kernel
theorem dX5_wrong_28 : decode cX5_wrong 28 = .ok (.goto (-26), 3) := by decide +kernel
theorem dX5_wrong_31 : decode cX5_wrong 31 = .ok (.iconst 0, 1) := by decide +kernel
theorem dX5_wrong_32 : decode cX5_wrong 32 = .ok (.istore_n 1, 1) := by decide +kernel
theorem dX5_wrong_33 : decode cX5_wrong 33 = .ok (.iload_n 1, 1) := by decide +kernel
theorem dX5_wrong_34 : decode cX5_wrong 34 = .ok (.aload_n 0, 1) := by decide +kernel
theorem dX5_wrong_35 : decode cX5_wrong 35 = .ok (.getfield 103, 3) := by decide +kernel
theorem dX5_wrong_38 : decode cX5_wrong 38 = .ok (.if_icmp .ge 34, 3) := by decide +kernel
theorem dX5_wrong_41 : decode cX5_wrong 41 = .ok (.aload_n 0, 1) := by decide +kernel
theorem dX5_wrong_42 : decode cX5_wrong 42 = .ok (.aload_n 0, 1) := by decide +kernel
theorem dX5_wrong_43 : decode cX5_wrong 43 = .ok (.getfield 41, 3) := by decide +kernel
theorem dX5_wrong_46 : decode cX5_wrong 46 = .ok (.iload_n 1, 1) := by decide +kernel
theorem dX5_wrong_47 : decode cX5_wrong 47 = .ok (.iaload, 1) := by decide +kernel
theorem dX5_wrong_48 : decode cX5_wrong 48 = .ok (.aload_n 0, 1) := by decide +kernel
theorem dX5_wrong_49 : decode cX5_wrong 49 = .ok (.getfield 44, 3) := by decide +kernel
theorem dX5_wrong_52 : decode cX5_wrong 52 = .ok (.iload_n 1, 1) := by decide +kernel
theorem dX5_wrong_53 : decode cX5_wrong 53 = .ok (.iaload, 1) := by decide +kernel
theorem dX5_wrong_54 : decode cX5_wrong 54 = .ok (.invokevirtual 99, 3) := by decide +kernel
theorem dX5_wrong_57 : decode cX5_wrong 57 = .ok (.ifCond .eq 9, 3) := by decide +kernel
theorem dX5_wrong_60 : decode cX5_wrong 60 = .ok (.sipush 300, 3) := by decide +kernel
theorem dX5_wrong_63 : decode cX5_wrong 63 = .ok (.iload_n 1, 1) := by decide +kernel
theorem dX5_wrong_64 : decode cX5_wrong 64 = .ok (.iadd, 1) := by decide +kernel
theorem dX5_wrong_65 : decode cX5_wrong 65 = .ok (.ireturn, 1) := by decide +kernel
theorem dX5_wrong_66 : decode cX5_wrong 66 = .ok (.iinc 1 1, 3) := by decide +kernel
theorem dX5_wrong_69 : decode cX5_wrong 69 = .ok (.goto (-36), 3) := by decide +kernel
theorem dX5_wrong_72 : decode cX5_wrong 72 = .ok (.iconst 0, 1) := by decide +kernel
theorem dX5_wrong_73 : decode cX5_wrong 73 = .ok (.istore_n 1, 1) := by decide +kernel
theorem dX5_wrong_74 : decode cX5_wrong 74 = .ok (.iload_n 1, 1) := by decide +kernel
theorem dX5_wrong_75 : decode cX5_wrong 75 = .ok (.aload_n 0, 1) := by decide +kernel
theorem dX5_wrong_76 : decode cX5_wrong 76 = .ok (.getfield 106, 3) := by decide +kernel
theorem dX5_wrong_79 : decode cX5_wrong 79 = .ok (.if_icmp .ge 23, 3) := by decide +kernel
theorem dX5_wrong_82 : decode cX5_wrong 82 = .ok (.aload_n 0, 1) := by decide +kernel
theorem dX5_wrong_83 : decode cX5_wrong 83 = .ok (.iload_n 1, 1) := by decide +kernel
theorem dX5_wrong_84 : decode cX5_wrong 84 = .ok (.invokevirtual 109, 3) := by decide +kernel
theorem dX5_wrong_87 : decode cX5_wrong 87 = .ok (.ifCond .eq 9, 3) := by decide +kernel
theorem dX5_wrong_90 : decode cX5_wrong 90 = .ok (.sipush 400, 3) := by decide +kernel
theorem dX5_wrong_93 : decode cX5_wrong 93 = .ok (.iload_n 1, 1) := by decide +kernel
theorem dX5_wrong_94 : decode cX5_wrong 94 = .ok (.iadd, 1) := by decide +kernel
theorem dX5_wrong_95 : decode cX5_wrong 95 = .ok (.ireturn, 1) := by decide +kernel
theorem dX5_wrong_96 : decode cX5_wrong 96 = .ok (.iinc 1 1, 3) := by decide +kernel
theorem dX5_wrong_99 : decode cX5_wrong 99 = .ok (.goto (-25), 3) := by decide +kernel
theorem dX5_wrong_102 : decode cX5_wrong 102 = .ok (.iconst 0, 1) := by decide +kernel
theorem dX5_wrong_103 : decode cX5_wrong 103 = .ok (.istore_n 1, 1) := by decide +kernel
theorem dX5_wrong_104 : decode cX5_wrong 104 = .ok (.iload_n 1, 1) := by decide +kernel
theorem dX5_wrong_105 : decode cX5_wrong 105 = .ok (.aload_n 0, 1) := by decide +kernel
theorem dX5_wrong_106 : decode cX5_wrong 106 = .ok (.getfield 112, 3) := by decide +kernel
theorem dX5_wrong_109 : decode cX5_wrong 109 = .ok (.if_icmp .ge 23, 3) := by decide +kernel
theorem dX5_wrong_112 : decode cX5_wrong 112 = .ok (.aload_n 0, 1) := by decide +kernel
theorem dX5_wrong_113 : decode cX5_wrong 113 = .ok (.iload_n 1, 1) := by decide +kernel
theorem dX5_wrong_114 : decode cX5_wrong 114 = .ok (.invokevirtual 115, 3) := by decide +kernel
theorem dX5_wrong_117 : decode cX5_wrong 117 = .ok (.ifCond .eq 9, 3) := by decide +kernel
theorem dX5_wrong_120 : decode cX5_wrong 120 = .ok (.sipush 500, 3) := by decide +kernel
theorem dX5_wrong_123 : decode cX5_wrong 123 = .ok (.iload_n 1, 1) := by decide +kernel
theorem dX5_wrong_124 : decode cX5_wrong 124 = .ok (.iadd, 1) := by decide +kernel
theorem dX5_wrong_125 : decode cX5_wrong 125 = .ok (.ireturn, 1) := by decide +kernel
theorem dX5_wrong_126 : decode cX5_wrong 126 = .ok (.iinc 1 1, 3) := by decide +kernel
theorem dX5_wrong_129 : decode cX5_wrong 129 = .ok (.goto (-25), 3) := by decide +kernel
theorem dX5_wrong_132 : decode cX5_wrong 132 = .ok (.iconst 0, 1) := by decide +kernel
theorem dX5_wrong_133 : decode cX5_wrong 133 = .ok (.ireturn, 1) := by decide +kernel
set_option maxRecDepth 20000 in
theorem ggX5_link_X5_isColumn : GoodIn wsX5_link wsX5_isColumn := goodIn_r _ [12, 13, 14, 15, 16, 11, 17, 18, 30, 31, 32, 33, 34, 35, 36, 37, 38, 39, 40, 41, 42, 43, 44, 45, 46, 47, 48, 49, 50, 51, 52, 53, 54, 55, 56, 57, 58, 59, 60] (by decide +kernel) (by decide +kernel)
set_option maxRecDepth 20000 in
theorem gX5_link_X5_isColumn : GoodIn wsX5_link (wsV RX5 118 RX5 yX5_isColumn wsX5_isColumn) := goodIn_app (goodIn_of _ (by decide +kernel)) ggX5_link_X5_isColumn
set_option maxRecDepth 20000 in
theorem ggX5_link_X5_isTable : GoodIn wsX5_link wsX5_isTable := goodIn_r _ [17, 18, 30, 31, 32, 33, 34, 35, 36, 37, 38, 39, 40, 41, 42, 43, 44, 45, 46, 47, 48, 49, 50, 51, 52, 53, 54, 55, 56, 57, 58, 59, 60] (by decide +kernel) (by decide +kernel)
set_option maxRecDepth 20000 in
theorem gX5_link_X5_isTable : GoodIn wsX5_link (wsV RX5 78 RX5 yX5_isTable wsX5_isTable) := goodIn_app (goodIn_of _ (by decide +kernel)) ggX5_link_X5_isTable
set_option maxRecDepth 20000 in
theorem ggX5_link_X5_breaksLink : GoodIn wsX5_link wsX5_breaksLink := goodIn_r _ [22, 23, 24, 4, 25, 3, 5, 26, 27, 28, 11, 29, 30, 31, 32, 33, 34, 35, 36, 37, 38, 39, 40, 41, 42, 43, 44, 45, 46, 47, 48, 49, 50, 51, 52, 53, 54, 55, 56, 57, 58, 59, 60] (by decide +kernel) (by decide +kernel)
set_option maxRecDepth 20000 in
theorem gX5_link_X5_breaksLink : GoodIn wsX5_link (wsV RX5 109 RX5 yX5_breaksLink wsX5_breaksLink) := goodIn_app (goodIn_of _ (by decide +kernel)) ggX5_link_X5_breaksLink
theorem dX5_link_0 : decode cX5_link 0 = .ok (.aload_n 0, 1) := by decide +kernel
theorem dX5_link_1 : decode cX5_link 1 = .ok (.aload_n 0, 1) := by decide +kernel
theorem dX5_link_2 : decode cX5_link 2 = .ok (.iload_n 1, 1) := by decide +kernel
theorem dX5_link_3 : decode cX5_link 3 = .ok (.iload_n 2, 1) := by decide +kernel
theorem dX5_link_4 : decode cX5_link 4 = .ok (.invokevirtual 118, 3) := by decide +kernel
theorem dX5_link_7 : decode cX5_link 7 = .ok (.ifCond .eq 26, 3) := by decide +kernel
theorem dX5_link_10 : decode cX5_link 10 = .ok (.aload_n 0, 1) := by decide +kernel
theorem dX5_link_11 : decode cX5_link 11 = .ok (.iload_n 3, 1) := by decide +kernel
theorem dX5_link_12 : decode cX5_link 12 = .ok (.invokevirtual 78, 3) := by decide +kernel
theorem dX5_link_15 : decode cX5_link 15 = .ok (.ifCond .eq 18, 3) := by decide +kernel
theorem dX5_link_18 : decode cX5_link 18 = .ok (.iload_n 2, 1) := by decide +kernel
theorem dX5_link_19 : decode cX5_link 19 = .ok (.ifCond .eq 14, 3) := by decide +kernel
theorem dX5_link_22 : decode cX5_link 22 = .ok (.iload 4, 2) := by decide +kernel
theorem dX5_link_24 : decode cX5_link 24 = .ok (.ifCond .lt 9, 3) := by decide +kernel
theorem dX5_link_27 : decode cX5_link 27 = .ok (.iload 4, 2) := by decide +kernel
theorem dX5_link_29 : decode cX5_link 29 = .ok (.iconst 2, 1) := by decide +kernel
theorem dX5_link_30 : decode cX5_link 30 = .ok (.if_icmp .le 7, 3) := by decide +kernel
theorem dX5_link_33 : decode cX5_link 33 = .ok (.iconst 1, 1) := by decide +kernel
theorem dX5_link_34 : decode cX5_link 34 = .ok (.goto 17, 3) := by decide +kernel
theorem dX5_link_37 : decode cX5_link 37 = .ok (.aload_n 0, 1) := by decide +kernel
theorem dX5_link_38 : decode cX5_link 38 = .ok (.getfield 106, 3) := by decide +kernel
theorem dX5_link_41 : decode cX5_link 41 = .ok (.bipush 6, 2) := by decide +kernel
theorem dX5_link_43 : decode cX5_link 43 = .ok (.if_icmp .ne 7, 3) := by decide +kernel
theorem dX5_link_46 : decode cX5_link 46 = .ok (.iconst 2, 1) := by decide +kernel
theorem dX5_link_47 : decode cX5_link 47 = .ok (.goto 4, 3) := by decide +kernel
theorem dX5_link_50 : decode cX5_link 50 = .ok (.iconst 0, 1) := by decide +kernel
theorem dX5_link_51 : decode cX5_link 51 = .ok (.putfield 71, 3) := by decide +kernel
theorem dX5_link_54 : decode cX5_link 54 = .ok (.aload_n 0, 1) := by decide +kernel
theorem dX5_link_55 : decode cX5_link 55 = .ok (.getfield 71, 3) := by decide +kernel
theorem dX5_link_58 : decode cX5_link 58 = .ok (.ifCond .le 5, 3) := by decide +kernel
theorem dX5_link_61 : decode cX5_link 61 = .ok (.iconst 0, 1) := by decide +kernel
theorem dX5_link_62 : decode cX5_link 62 = .ok (.ireturn, 1) := by decide +kernel
theorem dX5_link_63 : decode cX5_link 63 = .ok (.aload_n 0, 1) := by decide +kernel
theorem dX5_link_64 : decode cX5_link 64 = .ok (.getfield 29, 3) := by decide +kernel
theorem dX5_link_67 : decode cX5_link 67 = .ok (.aload_n 0, 1) := by decide +kernel
theorem dX5_link_68 : decode cX5_link 68 = .ok (.getfield 106, 3) := by decide +kernel
theorem dX5_link_71 : decode cX5_link 71 = .ok (.iload_n 1, 1) := by decide +kernel
theorem dX5_link_72 : decode cX5_link 72 = .ok (.iastore, 1) := by decide +kernel
theorem dX5_link_73 : decode cX5_link 73 = .ok (.aload_n 0, 1) := by decide +kernel
theorem dX5_link_74 : decode cX5_link 74 = .ok (.getfield 32, 3) := by decide +kernel
theorem dX5_link_77 : decode cX5_link 77 = .ok (.aload_n 0, 1) := by decide +kernel
theorem dX5_link_78 : decode cX5_link 78 = .ok (.getfield 106, 3) := by decide +kernel
theorem dX5_link_81 : decode cX5_link 81 = .ok (.iload_n 2, 1) := by decide +kernel
theorem dX5_link_82 : decode cX5_link 82 = .ok (.iastore, 1) := by decide +kernel
theorem dX5_link_83 : decode cX5_link 83 = .ok (.aload_n 0, 1) := by decide +kernel
theorem dX5_link_84 : decode cX5_link 84 = .ok (.getfield 35, 3) := by decide +kernel
theorem dX5_link_87 : decode cX5_link 87 = .ok (.aload_n 0, 1) := by decide +kernel
theorem dX5_link_88 : decode cX5_link 88 = .ok (.getfield 106, 3) := by decide +kernel
theorem dX5_link_91 : decode cX5_link 91 = .ok (.iload_n 3, 1) := by decide +kernel
theorem dX5_link_92 : decode cX5_link 92 = .ok (.iastore, 1) := by decide +kernel
theorem dX5_link_93 : decode cX5_link 93 = .ok (.aload_n 0, 1) := by decide +kernel
theorem dX5_link_94 : decode cX5_link 94 = .ok (.getfield 38, 3) := by decide +kernel
theorem dX5_link_97 : decode cX5_link 97 = .ok (.aload_n 0, 1) := by decide +kernel
theorem dX5_link_98 : decode cX5_link 98 = .ok (.getfield 106, 3) := by decide +kernel
theorem dX5_link_101 : decode cX5_link 101 = .ok (.iload 4, 2) := by decide +kernel
theorem dX5_link_103 : decode cX5_link 103 = .ok (.iastore, 1) := by decide +kernel
theorem dX5_link_104 : decode cX5_link 104 = .ok (.aload_n 0, 1) := by decide +kernel
theorem dX5_link_105 : decode cX5_link 105 = .ok (.aload_n 0, 1) := by decide +kernel
theorem dX5_link_106 : decode cX5_link 106 = .ok (.getfield 106, 3) := by decide +kernel
theorem dX5_link_109 : decode cX5_link 109 = .ok (.invokevirtual 109, 3) := by decide +kernel
theorem dX5_link_112 : decode cX5_link 112 = .ok (.ifCond .eq 22, 3) := by decide +kernel
theorem dX5_link_115 : decode cX5_link 115 = .ok (.aload_n 0, 1) := by decide +kernel
theorem dX5_link_116 : decode cX5_link 116 = .ok (.iconst 3, 1) := by decide +kernel
theorem dX5_link_117 : decode cX5_link 117 = .ok (.putfield 71, 3) := by decide +kernel
theorem dX5_link_120 : decode cX5_link 120 = .ok (.aload_n 0, 1) := by decide +kernel
theorem dX5_link_121 : decode cX5_link 121 = .ok (.sipush 400, 3) := by decide +kernel
theorem dX5_link_124 : decode cX5_link 124 = .ok (.aload_n 0, 1) := by decide +kernel
theorem dX5_link_125 : decode cX5_link 125 = .ok (.getfield 106, 3) := by decide +kernel
theorem dX5_link_128 : decode cX5_link 128 = .ok (.iadd, 1) := by decide +kernel
theorem dX5_link_129 : decode cX5_link 129 = .ok (.putfield 121, 3) := by decide +kernel
theorem dX5_link_132 : decode cX5_link 132 = .ok (.iconst 0, 1) := by decide +kernel
theorem dX5_link_133 : decode cX5_link 133 = .ok (.ireturn, 1) := by decide +kernel
theorem dX5_link_134 : decode cX5_link 134 = .ok (.aload_n 0, 1) := by decide +kernel
theorem dX5_link_135 : decode cX5_link 135 = .ok (.dup, 1) := by decide +kernel
theorem dX5_link_136 : decode cX5_link 136 = .ok (.getfield 106, 3) := by decide +kernel
theorem dX5_link_139 : decode cX5_link 139 = .ok (.iconst 1, 1) := by decide +kernel
theorem dX5_link_140 : decode cX5_link 140 = .ok (.iadd, 1) := by decide +kernel
theorem dX5_link_141 : decode cX5_link 141 = .ok (.putfield 106, 3) := by decide +kernel
theorem dX5_link_144 : decode cX5_link 144 = .ok (.aload_n 0, 1) := by decide +kernel
theorem dX5_link_145 : decode cX5_link 145 = .ok (.getfield 106, 3) := by decide +kernel
theorem dX5_link_148 : decode cX5_link 148 = .ok (.iconst 1, 1) := by decide +kernel
theorem dX5_link_149 : decode cX5_link 149 = .ok (.isub, 1) := by decide +kernel
theorem dX5_link_150 : decode cX5_link 150 = .ok (.ireturn, 1) := by decide +kernel
set_option maxRecDepth 20000 in
theorem ggX5_single_X5_isColumn : GoodIn wsX5_single wsX5_isColumn := goodIn_r _ [10, 11, 12, 13, 14, 9, 15, 16, 24, 25, 26, 27, 28, 29, 30, 31, 32, 33, 34, 35, 36, 37, 38, 39, 40, 41, 42, 43, 44, 45, 46, 47, 48, 49, 50, 51, 52, 53, 54] (by decide +kernel) (by decide +kernel)
set_option maxRecDepth 20000 in
theorem gX5_single_X5_isColumn : GoodIn wsX5_single (wsV RX5 118 RX5 yX5_isColumn wsX5_isColumn) := goodIn_app (goodIn_of _ (by decide +kernel)) ggX5_single_X5_isColumn
set_option maxRecDepth 20000 in
theorem ggX5_single_X5_twice : GoodIn wsX5_single wsX5_twice := goodIn_r _ [20, 21, 22, 23, 24, 25, 26, 27, 28, 29, 30, 31, 32, 33, 34, 35, 36, 37, 38, 39, 40, 41, 42, 43, 44, 45, 46, 47, 48, 49, 50, 51, 52, 53, 54] (by decide +kernel) (by decide +kernel)
set_option maxRecDepth 20000 in
theorem gX5_single_X5_twice : GoodIn wsX5_single (wsV RX5 99 RX5 yX5_twice wsX5_twice) := goodIn_app (goodIn_of _ (by decide +kernel)) ggX5_single_X5_twice
theorem dX5_single_0 : decode cX5_single 0 = .ok (.aload_n 0, 1) := by decide +kernel
theorem dX5_single_1 : decode cX5_single 1 = .ok (.aload_n 0, 1) := by decide +kernel
theorem dX5_single_2 : decode cX5_single 2 = .ok (.iload_n 1, 1) := by decide +kernel
theorem dX5_single_3 : decode cX5_single 3 = .ok (.iload_n 2, 1) := by decide +kernel
theorem dX5_single_4 : decode cX5_single 4 = .ok (.invokevirtual 118, 3) := by decide +kernel
theorem dX5_single_7 : decode cX5_single 7 = .ok (.ifCond .eq 7, 3) := by decide +kernel
theorem dX5_single_10 : decode cX5_single 10 = .ok (.iload_n 2, 1) := by decide +kernel
theorem dX5_single_11 : decode cX5_single 11 = .ok (.ifCond .ne 7, 3) := by decide +kernel
theorem dX5_single_14 : decode cX5_single 14 = .ok (.iconst 1, 1) := by decide +kernel
theorem dX5_single_15 : decode cX5_single 15 = .ok (.goto 29, 3) := by decide +kernel
theorem dX5_single_18 : decode cX5_single 18 = .ok (.aload_n 0, 1) := by decide +kernel
theorem dX5_single_19 : decode cX5_single 19 = .ok (.getfield 103, 3) := by decide +kernel
theorem dX5_single_22 : decode cX5_single 22 = .ok (.iconst 4, 1) := by decide +kernel
theorem dX5_single_23 : decode cX5_single 23 = .ok (.if_icmp .ne 7, 3) := by decide +kernel
theorem dX5_single_26 : decode cX5_single 26 = .ok (.iconst 2, 1) := by decide +kernel
theorem dX5_single_27 : decode cX5_single 27 = .ok (.goto 17, 3) := by decide +kernel
theorem dX5_single_30 : decode cX5_single 30 = .ok (.aload_n 0, 1) := by decide +kernel
theorem dX5_single_31 : decode cX5_single 31 = .ok (.iload_n 1, 1) := by decide +kernel
theorem dX5_single_32 : decode cX5_single 32 = .ok (.iload_n 2, 1) := by decide +kernel
theorem dX5_single_33 : decode cX5_single 33 = .ok (.invokevirtual 99, 3) := by decide +kernel
theorem dX5_single_36 : decode cX5_single 36 = .ok (.ifCond .eq 7, 3) := by decide +kernel
theorem dX5_single_39 : decode cX5_single 39 = .ok (.iconst 3, 1) := by decide +kernel
theorem dX5_single_40 : decode cX5_single 40 = .ok (.goto 4, 3) := by decide +kernel
theorem dX5_single_43 : decode cX5_single 43 = .ok (.iconst 0, 1) := by decide +kernel
theorem dX5_single_44 : decode cX5_single 44 = .ok (.putfield 71, 3) := by decide +kernel
theorem dX5_single_47 : decode cX5_single 47 = .ok (.aload_n 0, 1) := by decide +kernel
theorem dX5_single_48 : decode cX5_single 48 = .ok (.aload_n 0, 1) := by decide +kernel
theorem dX5_single_49 : decode cX5_single 49 = .ok (.getfield 71, 3) := by decide +kernel
theorem dX5_single_52 : decode cX5_single 52 = .ok (.iconst 3, 1) := by decide +kernel
theorem dX5_single_53 : decode cX5_single 53 = .ok (.if_icmp .ne 14, 3) := by decide +kernel
theorem dX5_single_56 : decode cX5_single 56 = .ok (.sipush 300, 3) := by decide +kernel
theorem dX5_single_59 : decode cX5_single 59 = .ok (.aload_n 0, 1) := by decide +kernel
theorem dX5_single_60 : decode cX5_single 60 = .ok (.getfield 103, 3) := by decide +kernel
theorem dX5_single_63 : decode cX5_single 63 = .ok (.iadd, 1) := by decide +kernel
theorem dX5_single_64 : decode cX5_single 64 = .ok (.goto 7, 3) := by decide +kernel
theorem dX5_single_67 : decode cX5_single 67 = .ok (.aload_n 0, 1) := by decide +kernel
theorem dX5_single_68 : decode cX5_single 68 = .ok (.getfield 121, 3) := by decide +kernel
theorem dX5_single_71 : decode cX5_single 71 = .ok (.putfield 121, 3) := by decide +kernel
theorem dX5_single_74 : decode cX5_single 74 = .ok (.aload_n 0, 1) := by decide +kernel
theorem dX5_single_75 : decode cX5_single 75 = .ok (.getfield 71, 3) := by decide +kernel
theorem dX5_single_78 : decode cX5_single 78 = .ok (.ifCond .le 5, 3) := by decide +kernel
theorem dX5_single_81 : decode cX5_single 81 = .ok (.iconst 0, 1) := by decide +kernel
theorem dX5_single_82 : decode cX5_single 82 = .ok (.ireturn, 1) := by decide +kernel
theorem dX5_single_83 : decode cX5_single 83 = .ok (.aload_n 0, 1) := by decide +kernel
theorem dX5_single_84 : decode cX5_single 84 = .ok (.getfield 41, 3) := by decide +kernel
theorem dX5_single_87 : decode cX5_single 87 = .ok (.aload_n 0, 1) := by decide +kernel
theorem dX5_single_88 : decode cX5_single 88 = .ok (.getfield 103, 3) := by decide +kernel
theorem dX5_single_91 : decode cX5_single 91 = .ok (.iload_n 1, 1) := by decide +kernel
theorem dX5_single_92 : decode cX5_single 92 = .ok (.iastore, 1) := by decide +kernel
theorem dX5_single_93 : decode cX5_single 93 = .ok (.aload_n 0, 1) := by decide +kernel
theorem dX5_single_94 : decode cX5_single 94 = .ok (.getfield 44, 3) := by decide +kernel
theorem dX5_single_97 : decode cX5_single 97 = .ok (.aload_n 0, 1) := by decide +kernel
theorem dX5_single_98 : decode cX5_single 98 = .ok (.getfield 103, 3) := by decide +kernel
theorem dX5_single_101 : decode cX5_single 101 = .ok (.iload_n 2, 1) := by decide +kernel
theorem dX5_single_102 : decode cX5_single 102 = .ok (.iastore, 1) := by decide +kernel
theorem dX5_single_103 : decode cX5_single 103 = .ok (.aload_n 0, 1) := by decide +kernel
theorem dX5_single_104 : decode cX5_single 104 = .ok (.dup, 1) := by decide +kernel
theorem dX5_single_105 : decode cX5_single 105 = .ok (.getfield 103, 3) := by decide +kernel
theorem dX5_single_108 : decode cX5_single 108 = .ok (.iconst 1, 1) := by decide +kernel
theorem dX5_single_109 : decode cX5_single 109 = .ok (.iadd, 1) := by decide +kernel
theorem dX5_single_110 : decode cX5_single 110 = .ok (.putfield 103, 3) := by decide +kernel
theorem dX5_single_113 : decode cX5_single 113 = .ok (.aload_n 0, 1) := by decide +kernel
theorem dX5_single_114 : decode cX5_single 114 = .ok (.getfield 103, 3) := by decide +kernel
theorem dX5_single_117 : decode cX5_single 117 = .ok (.iconst 1, 1) := by decide +kernel
theorem dX5_single_118 : decode cX5_single 118 = .ok (.isub, 1) := by decide +kernel
theorem dX5_single_119 : decode cX5_single 119 = .ok (.ireturn, 1) := by decide +kernel
theorem dX5_word_0 : decode cX5_word 0 = .ok (.iload_n 1, 1) := by decide +kernel
theorem dX5_word_1 : decode cX5_word 1 = .ok (.ifCond .lt 8, 3) := by decide +kernel
theorem dX5_word_4 : decode cX5_word 4 = .ok (.iload_n 1, 1) := by decide +kernel
theorem dX5_word_5 : decode cX5_word 5 = .ok (.iconst 3, 1) := by decide +kernel
theorem dX5_word_6 : decode cX5_word 6 = .ok (.if_icmp .le 28, 3) := by decide +kernel
theorem dX5_word_9 : decode cX5_word 9 = .ok (.iload_n 1, 1) := by decide +kernel
theorem dX5_word_10 : decode cX5_word 10 = .ok (.bipush 10, 2) := by decide +kernel
theorem dX5_word_12 : decode cX5_word 12 = .ok (.if_icmp .lt 9, 3) := by decide +kernel
theorem dX5_word_15 : decode cX5_word 15 = .ok (.iload_n 1, 1) := by decide +kernel
theorem dX5_word_16 : decode cX5_word 16 = .ok (.bipush 17, 2) := by decide +kernel
theorem dX5_word_18 : decode cX5_word 18 = .ok (.if_icmp .le 16, 3) := by decide +kernel
theorem dX5_word_21 : decode cX5_word 21 = .ok (.iload_n 1, 1) := by decide +kernel
theorem dX5_word_22 : decode cX5_word 22 = .ok (.bipush 100, 2) := by decide +kernel
theorem dX5_word_24 : decode cX5_word 24 = .ok (.if_icmp .lt 14, 3) := by decide +kernel
theorem dX5_word_27 : decode cX5_word 27 = .ok (.iload_n 1, 1) := by decide +kernel
theorem dX5_word_28 : decode cX5_word 28 = .ok (.sipush 300, 3) := by decide +kernel
theorem dX5_word_31 : decode cX5_word 31 = .ok (.if_icmp .gt 7, 3) := by decide +kernel
theorem dX5_word_34 : decode cX5_word 34 = .ok (.iconst 1, 1) := by decide +kernel
theorem dX5_word_35 : decode cX5_word 35 = .ok (.goto 4, 3) := by decide +kernel
theorem dX5_word_38 : decode cX5_word 38 = .ok (.iconst 0, 1) := by decide +kernel
theorem dX5_word_39 : decode cX5_word 39 = .ok (.istore_n 2, 1) := by decide +kernel
theorem dX5_word_40 : decode cX5_word 40 = .ok (.aload_n 0, 1) := by decide +kernel
theorem dX5_word_41 : decode cX5_word 41 = .ok (.iload_n 2, 1) := by decide +kernel
theorem dX5_word_42 : decode cX5_word 42 = .ok (.ifCond .ne 7, 3) := by decide +kernel
theorem dX5_word_45 : decode cX5_word 45 = .ok (.iconst 1, 1) := by decide +kernel
theorem dX5_word_46 : decode cX5_word 46 = .ok (.goto 17, 3) := by decide +kernel
theorem dX5_word_49 : decode cX5_word 49 = .ok (.aload_n 0, 1) := by decide +kernel
theorem dX5_word_50 : decode cX5_word 50 = .ok (.getfield 124, 3) := by decide +kernel
theorem dX5_word_53 : decode cX5_word 53 = .ok (.bipush 10, 2) := by decide +kernel
theorem dX5_word_55 : decode cX5_word 55 = .ok (.if_icmp .ne 7, 3) := by decide +kernel
theorem dX5_word_58 : decode cX5_word 58 = .ok (.iconst 2, 1) := by decide +kernel
theorem dX5_word_59 : decode cX5_word 59 = .ok (.goto 4, 3) := by decide +kernel
theorem dX5_word_62 : decode cX5_word 62 = .ok (.iconst 0, 1) := by decide +kernel
theorem dX5_word_63 : decode cX5_word 63 = .ok (.putfield 71, 3) := by decide +kernel
theorem dX5_word_66 : decode cX5_word 66 = .ok (.aload_n 0, 1) := by decide +kernel
theorem dX5_word_67 : decode cX5_word 67 = .ok (.getfield 71, 3) := by decide +kernel
theorem dX5_word_70 : decode cX5_word 70 = .ok (.ifCond .le 5, 3) := by decide +kernel
theorem dX5_word_73 : decode cX5_word 73 = .ok (.iconst 0, 1) := by decide +kernel
theorem dX5_word_74 : decode cX5_word 74 = .ok (.ireturn, 1) := by decide +kernel
theorem dX5_word_75 : decode cX5_word 75 = .ok (.aload_n 0, 1) := by decide +kernel
theorem dX5_word_76 : decode cX5_word 76 = .ok (.getfield 56, 3) := by decide +kernel
theorem dX5_word_79 : decode cX5_word 79 = .ok (.aload_n 0, 1) := by decide +kernel
theorem dX5_word_80 : decode cX5_word 80 = .ok (.getfield 124, 3) := by decide +kernel
theorem dX5_word_83 : decode cX5_word 83 = .ok (.iload_n 1, 1) := by decide +kernel
theorem dX5_word_84 : decode cX5_word 84 = .ok (.iastore, 1) := by decide +kernel
theorem dX5_word_85 : decode cX5_word 85 = .ok (.aload_n 0, 1) := by decide +kernel
theorem dX5_word_86 : decode cX5_word 86 = .ok (.dup, 1) := by decide +kernel
theorem dX5_word_87 : decode cX5_word 87 = .ok (.getfield 124, 3) := by decide +kernel
theorem dX5_word_90 : decode cX5_word 90 = .ok (.iconst 1, 1) := by decide +kernel
theorem dX5_word_91 : decode cX5_word 91 = .ok (.iadd, 1) := by decide +kernel
theorem dX5_word_92 : decode cX5_word 92 = .ok (.putfield 124, 3) := by decide +kernel
theorem dX5_word_95 : decode cX5_word 95 = .ok (.aload_n 0, 1) := by decide +kernel
theorem dX5_word_96 : decode cX5_word 96 = .ok (.getfield 124, 3) := by decide +kernel
theorem dX5_word_99 : decode cX5_word 99 = .ok (.ireturn, 1) := by decide +kernel
theorem dX5_isRight_0 : decode cX5_isRight 0 = .ok (.iconst 0, 1) := by decide +kernel
theorem dX5_isRight_1 : decode cX5_isRight 1 = .ok (.istore_n 2, 1) := by decide +kernel
theorem dX5_isRight_2 : decode cX5_isRight 2 = .ok (.iconst 1, 1) := by decide +kernel
theorem dX5_isRight_3 : decode cX5_isRight 3 = .ok (.istore_n 3, 1) := by decide +kernel
theorem dX5_isRight_4 : decode cX5_isRight 4 = .ok (.iconst 0, 1) := by decide +kernel
theorem dX5_isRight_5 : decode cX5_isRight 5 = .ok (.istore 4, 2) := by decide +kernel
theorem dX5_isRight_7 : decode cX5_isRight 7 = .ok (.iload 4, 2) := by decide +kernel
theorem dX5_isRight_9 : decode cX5_isRight 9 = .ok (.aload_n 0, 1) := by decide +kernel
theorem dX5_isRight_10 : decode cX5_isRight 10 = .ok (.getfield 124, 3) := by decide +kernel
theorem dX5_isRight_13 : decode cX5_isRight 13 = .ok (.if_icmp .ge 101, 3) := by decide +kernel
theorem dX5_isRight_16 : decode cX5_isRight 16 = .ok (.aload_n 0, 1) := by decide +kernel
theorem dX5_isRight_17 : decode cX5_isRight 17 = .ok (.getfield 56, 3) := by decide +kernel
theorem dX5_isRight_20 : decode cX5_isRight 20 = .ok (.iload 4, 2) := by decide +kernel
theorem dX5_isRight_22 : decode cX5_isRight 22 = .ok (.iaload, 1) := by decide +kernel
theorem dX5_isRight_23 : decode cX5_isRight 23 = .ok (.istore 5, 2) := by decide +kernel
theorem dX5_isRight_25 : decode cX5_isRight 25 = .ok (.iload 5, 2) := by decide +kernel
theorem dX5_isRight_27 : decode cX5_isRight 27 = .ok (.iconst 4, 1) := by decide +kernel
theorem dX5_isRight_28 : decode cX5_isRight 28 = .ok (.if_icmp .lt 10, 3) := by decide +kernel
theorem dX5_isRight_31 : decode cX5_isRight 31 = .ok (.iload 5, 2) := by decide +kernel
theorem dX5_isRight_33 : decode cX5_isRight 33 = .ok (.bipush 100, 2) := by decide +kernel
theorem dX5_isRight_35 : decode cX5_isRight 35 = .ok (.if_icmp .lt 7, 3) := by decide +kernel
theorem dX5_isRight_38 : decode cX5_isRight 38 = .ok (.iconst 1, 1) := by decide +kernel
theorem dX5_isRight_39 : decode cX5_isRight 39 = .ok (.goto 4, 3) := by decide +kernel
theorem dX5_isRight_42 : decode cX5_isRight 42 = .ok (.iconst 0, 1) := by decide +kernel
theorem dX5_isRight_43 : decode cX5_isRight 43 = .ok (.istore 6, 2) := by decide +kernel
theorem dX5_isRight_45 : decode cX5_isRight 45 = .ok (.iload 6, 2) := by decide +kernel
theorem dX5_isRight_47 : decode cX5_isRight 47 = .ok (.ifCond .eq 7, 3) := by decide +kernel
theorem dX5_isRight_50 : decode cX5_isRight 50 = .ok (.iconst 0, 1) := by decide +kernel
theorem dX5_isRight_51 : decode cX5_isRight 51 = .ok (.goto 15, 3) := by decide +kernel
theorem dX5_isRight_54 : decode cX5_isRight 54 = .ok (.iload 5, 2) := by decide +kernel
theorem dX5_isRight_56 : decode cX5_isRight 56 = .ok (.bipush 17, 2) := by decide +kernel
theorem dX5_isRight_58 : decode cX5_isRight 58 = .ok (.if_icmp .ne 7, 3) := by decide +kernel
theorem dX5_isRight_61 : decode cX5_isRight 61 = .ok (.iconst 1, 1) := by decide +kernel
theorem dX5_isRight_62 : decode cX5_isRight 62 = .ok (.goto 4, 3) := by decide +kernel
theorem dX5_isRight_65 : decode cX5_isRight 65 = .ok (.iconst 2, 1) := by decide +kernel
theorem dX5_isRight_66 : decode cX5_isRight 66 = .ok (.istore 7, 2) := by decide +kernel
theorem dX5_isRight_68 : decode cX5_isRight 68 = .ok (.iload_n 3, 1) := by decide +kernel
theorem dX5_isRight_69 : decode cX5_isRight 69 = .ok (.ifCond .eq 30, 3) := by decide +kernel
theorem dX5_isRight_72 : decode cX5_isRight 72 = .ok (.iload_n 2, 1) := by decide +kernel
theorem dX5_isRight_73 : decode cX5_isRight 73 = .ok (.iload 7, 2) := by decide +kernel
theorem dX5_isRight_75 : decode cX5_isRight 75 = .ok (.if_icmp .lt 24, 3) := by decide +kernel
theorem dX5_isRight_78 : decode cX5_isRight 78 = .ok (.iload 5, 2) := by decide +kernel
theorem dX5_isRight_80 : decode cX5_isRight 80 = .ok (.iconst 4, 1) := by decide +kernel
theorem dX5_isRight_81 : decode cX5_isRight 81 = .ok (.if_icmp .ge 14, 3) := by decide +kernel
theorem dX5_isRight_84 : decode cX5_isRight 84 = .ok (.iload 5, 2) := by decide +kernel
theorem dX5_isRight_86 : decode cX5_isRight 86 = .ok (.aload_n 0, 1) := by decide +kernel
theorem dX5_isRight_87 : decode cX5_isRight 87 = .ok (.getfield 7, 3) := by decide +kernel
theorem dX5_isRight_90 : decode cX5_isRight 90 = .ok (.iload_n 1, 1) := by decide +kernel
theorem dX5_isRight_91 : decode cX5_isRight 91 = .ok (.iaload, 1) := by decide +kernel
theorem dX5_isRight_92 : decode cX5_isRight 92 = .ok (.if_icmp .ge 7, 3) := by decide +kernel
theorem dX5_isRight_95 : decode cX5_isRight 95 = .ok (.iconst 1, 1) := by decide +kernel
theorem dX5_isRight_96 : decode cX5_isRight 96 = .ok (.goto 4, 3) := by decide +kernel
theorem dX5_isRight_99 : decode cX5_isRight 99 = .ok (.iconst 0, 1) := by decide +kernel
theorem dX5_isRight_100 : decode cX5_isRight 100 = .ok (.istore_n 3, 1) := by decide +kernel
theorem dX5_isRight_101 : decode cX5_isRight 101 = .ok (.iload_n 2, 1) := by decide +kernel
theorem dX5_isRight_102 : decode cX5_isRight 102 = .ok (.iconst 1, 1) := by decide +kernel
theorem dX5_isRight_103 : decode cX5_isRight 103 = .ok (.iload 7, 2) := by decide +kernel
theorem dX5_isRight_105 : decode cX5_isRight 105 = .ok (.isub, 1) := by decide +kernel
theorem dX5_isRight_106 : decode cX5_isRight 106 = .ok (.iadd, 1) := by decide +kernel
theorem dX5_isRight_107 : decode cX5_isRight 107 = .ok (.istore_n 2, 1) := by decide +kernel
theorem dX5_isRight_108 : decode cX5_isRight 108 = .ok (.iinc 4 1, 3) := by decide +kernel
theorem dX5_isRight_111 : decode cX5_isRight 111 = .ok (.goto (-104), 3) := by decide +kernel
theorem dX5_isRight_114 : decode cX5_isRight 114 = .ok (.iload_n 3, 1) := by decide +kernel
theorem dX5_isRight_115 : decode cX5_isRight 115 = .ok (.ifCond .eq 12, 3) := by decide +kernel
theorem dX5_isRight_118 : decode cX5_isRight 118 = .ok (.iload_n 2, 1) := by decide +kernel
theorem dX5_isRight_119 : decode cX5_isRight 119 = .ok (.iconst 1, 1) := by decide +kernel
theorem dX5_isRight_120 : decode cX5_isRight 120 = .ok (.if_icmp .ne 7, 3) := by decide +kernel
theorem dX5_isRight_123 : decode cX5_isRight 123 = .ok (.iconst 1, 1) := by decide +kernel
theorem dX5_isRight_124 : decode cX5_isRight 124 = .ok (.goto 4, 3) := by decide +kernel
theorem dX5_isRight_127 : decode cX5_isRight 127 = .ok (.iconst 0, 1) := by decide +kernel
theorem dX5_isRight_128 : decode cX5_isRight 128 = .ok (.ireturn, 1) := by decide +kernel
set_option maxRecDepth 20000 in
theorem ggX5_check_X5_isTable : GoodIn wsX5_check wsX5_isTable := goodIn_r _ [13, 14, 36, 37, 38, 39, 40, 41, 42, 43, 44, 45, 46, 47, 48, 49, 50, 51, 52, 53, 54, 55, 56, 57, 58, 59, 60, 61, 62, 63, 64, 65, 66] (by decide +kernel) (by decide +kernel)
set_option maxRecDepth 20000 in
theorem gX5_check_X5_isTable : GoodIn wsX5_check (wsV RX5 78 RX5 yX5_isTable wsX5_isTable) := goodIn_app (goodIn_of _ (by decide +kernel)) ggX5_check_X5_isTable
set_option maxRecDepth 20000 in
theorem ggX5_check_X5_isRight : GoodIn wsX5_check wsX5_isRight := goodIn_r _ [18, 2, 7, 19, 36, 37, 38, 39, 40, 41, 42, 43, 44, 45, 46, 47, 48, 49, 50, 51, 52, 53, 54, 55, 56, 57, 58, 59, 60, 61, 62, 63, 64, 65, 66] (by decide +kernel) (by decide +kernel)
set_option maxRecDepth 20000 in
theorem gX5_check_X5_isRight : GoodIn wsX5_check (wsV RX5 127 RX5 yX5_isRight wsX5_isRight) := goodIn_app (goodIn_of _ (by decide +kernel)) ggX5_check_X5_isRight
set_option maxRecDepth 20000 in
theorem ggX5_check_X5_breaksCheck : GoodIn wsX5_check wsX5_breaksCheck := goodIn_r _ [23, 24, 25, 4, 26, 27, 28, 12, 29, 30, 5, 6, 31, 32, 33, 34, 35, 36, 37, 38, 39, 40, 41, 42, 43, 44, 45, 46, 47, 48, 49, 50, 51, 52, 53, 54, 55, 56, 57, 58, 59, 60, 61, 62, 63, 64, 65, 66] (by decide +kernel) (by decide +kernel)
set_option maxRecDepth 20000 in
theorem gX5_check_X5_breaksCheck : GoodIn wsX5_check (wsV RX5 115 RX5 yX5_breaksCheck wsX5_breaksCheck) := goodIn_app (goodIn_of _ (by decide +kernel)) ggX5_check_X5_breaksCheck
theorem dX5_check_0 : decode cX5_check 0 = .ok (.aload_n 0, 1) := by decide +kernel
theorem dX5_check_1 : decode cX5_check 1 = .ok (.aload_n 0, 1) := by decide +kernel
theorem dX5_check_2 : decode cX5_check 2 = .ok (.iload_n 1, 1) := by decide +kernel
theorem dX5_check_3 : decode cX5_check 3 = .ok (.invokevirtual 78, 3) := by decide +kernel
theorem dX5_check_6 : decode cX5_check 6 = .ok (.ifCond .eq 7, 3) := by decide +kernel
theorem dX5_check_9 : decode cX5_check 9 = .ok (.iconst 0, 1) := by decide +kernel
theorem dX5_check_10 : decode cX5_check 10 = .ok (.goto 4, 3) := by decide +kernel
theorem dX5_check_13 : decode cX5_check 13 = .ok (.iconst 1, 1) := by decide +kernel
theorem dX5_check_14 : decode cX5_check 14 = .ok (.putfield 71, 3) := by decide +kernel
theorem dX5_check_17 : decode cX5_check 17 = .ok (.aload_n 0, 1) := by decide +kernel
theorem dX5_check_18 : decode cX5_check 18 = .ok (.getfield 71, 3) := by decide +kernel
theorem dX5_check_21 : decode cX5_check 21 = .ok (.ifCond .le 5, 3) := by decide +kernel
theorem dX5_check_24 : decode cX5_check 24 = .ok (.iconst 0, 1) := by decide +kernel
theorem dX5_check_25 : decode cX5_check 25 = .ok (.ireturn, 1) := by decide +kernel
theorem dX5_check_26 : decode cX5_check 26 = .ok (.aload_n 0, 1) := by decide +kernel
theorem dX5_check_27 : decode cX5_check 27 = .ok (.iload_n 1, 1) := by decide +kernel
theorem dX5_check_28 : decode cX5_check 28 = .ok (.invokevirtual 127, 3) := by decide +kernel
theorem dX5_check_31 : decode cX5_check 31 = .ok (.istore_n 2, 1) := by decide +kernel
theorem dX5_check_32 : decode cX5_check 32 = .ok (.aload_n 0, 1) := by decide +kernel
theorem dX5_check_33 : decode cX5_check 33 = .ok (.getfield 124, 3) := by decide +kernel
theorem dX5_check_36 : decode cX5_check 36 = .ok (.istore_n 3, 1) := by decide +kernel
theorem dX5_check_37 : decode cX5_check 37 = .ok (.aload_n 0, 1) := by decide +kernel
theorem dX5_check_38 : decode cX5_check 38 = .ok (.iconst 0, 1) := by decide +kernel
theorem dX5_check_39 : decode cX5_check 39 = .ok (.putfield 124, 3) := by decide +kernel
theorem dX5_check_42 : decode cX5_check 42 = .ok (.aload_n 0, 1) := by decide +kernel
theorem dX5_check_43 : decode cX5_check 43 = .ok (.iload_n 2, 1) := by decide +kernel
theorem dX5_check_44 : decode cX5_check 44 = .ok (.ifCond .ne 7, 3) := by decide +kernel
theorem dX5_check_47 : decode cX5_check 47 = .ok (.iconst 1, 1) := by decide +kernel
theorem dX5_check_48 : decode cX5_check 48 = .ok (.goto 16, 3) := by decide +kernel
theorem dX5_check_51 : decode cX5_check 51 = .ok (.aload_n 0, 1) := by decide +kernel
theorem dX5_check_52 : decode cX5_check 52 = .ok (.getfield 112, 3) := by decide +kernel
theorem dX5_check_55 : decode cX5_check 55 = .ok (.iconst 4, 1) := by decide +kernel
theorem dX5_check_56 : decode cX5_check 56 = .ok (.if_icmp .ne 7, 3) := by decide +kernel
theorem dX5_check_59 : decode cX5_check 59 = .ok (.iconst 2, 1) := by decide +kernel
theorem dX5_check_60 : decode cX5_check 60 = .ok (.goto 4, 3) := by decide +kernel
theorem dX5_check_63 : decode cX5_check 63 = .ok (.iconst 0, 1) := by decide +kernel
theorem dX5_check_64 : decode cX5_check 64 = .ok (.putfield 71, 3) := by decide +kernel
theorem dX5_check_67 : decode cX5_check 67 = .ok (.aload_n 0, 1) := by decide +kernel
theorem dX5_check_68 : decode cX5_check 68 = .ok (.getfield 71, 3) := by decide +kernel
theorem dX5_check_71 : decode cX5_check 71 = .ok (.ifCond .le 5, 3) := by decide +kernel
theorem dX5_check_74 : decode cX5_check 74 = .ok (.iconst 0, 1) := by decide +kernel
theorem dX5_check_75 : decode cX5_check 75 = .ok (.ireturn, 1) := by decide +kernel
theorem dX5_check_76 : decode cX5_check 76 = .ok (.aload_n 0, 1) := by decide +kernel
theorem dX5_check_77 : decode cX5_check 77 = .ok (.getfield 47, 3) := by decide +kernel
theorem dX5_check_80 : decode cX5_check 80 = .ok (.aload_n 0, 1) := by decide +kernel
theorem dX5_check_81 : decode cX5_check 81 = .ok (.getfield 112, 3) := by decide +kernel
theorem dX5_check_84 : decode cX5_check 84 = .ok (.iload_n 1, 1) := by decide +kernel
theorem dX5_check_85 : decode cX5_check 85 = .ok (.iastore, 1) := by decide +kernel
theorem dX5_check_86 : decode cX5_check 86 = .ok (.aload_n 0, 1) := by decide +kernel
theorem dX5_check_87 : decode cX5_check 87 = .ok (.getfield 50, 3) := by decide +kernel
theorem dX5_check_90 : decode cX5_check 90 = .ok (.aload_n 0, 1) := by decide +kernel
theorem dX5_check_91 : decode cX5_check 91 = .ok (.getfield 112, 3) := by decide +kernel
theorem dX5_check_94 : decode cX5_check 94 = .ok (.iload_n 3, 1) := by decide +kernel
theorem dX5_check_95 : decode cX5_check 95 = .ok (.iastore, 1) := by decide +kernel
theorem dX5_check_96 : decode cX5_check 96 = .ok (.iconst 0, 1) := by decide +kernel
theorem dX5_check_97 : decode cX5_check 97 = .ok (.istore 4, 2) := by decide +kernel
theorem dX5_check_99 : decode cX5_check 99 = .ok (.iload 4, 2) := by decide +kernel
theorem dX5_check_101 : decode cX5_check 101 = .ok (.iload_n 3, 1) := by decide +kernel
theorem dX5_check_102 : decode cX5_check 102 = .ok (.if_icmp .ge 31, 3) := by decide +kernel
theorem dX5_check_105 : decode cX5_check 105 = .ok (.aload_n 0, 1) := by decide +kernel
theorem dX5_check_106 : decode cX5_check 106 = .ok (.getfield 53, 3) := by decide +kernel
theorem dX5_check_109 : decode cX5_check 109 = .ok (.bipush 10, 2) := by decide +kernel
theorem dX5_check_111 : decode cX5_check 111 = .ok (.aload_n 0, 1) := by decide +kernel
theorem dX5_check_112 : decode cX5_check 112 = .ok (.getfield 112, 3) := by decide +kernel
theorem dX5_check_115 : decode cX5_check 115 = .ok (.imul, 1) := by decide +kernel
theorem dX5_check_116 : decode cX5_check 116 = .ok (.iload 4, 2) := by decide +kernel
theorem dX5_check_118 : decode cX5_check 118 = .ok (.iadd, 1) := by decide +kernel
theorem dX5_check_119 : decode cX5_check 119 = .ok (.aload_n 0, 1) := by decide +kernel
theorem dX5_check_120 : decode cX5_check 120 = .ok (.getfield 56, 3) := by decide +kernel
theorem dX5_check_123 : decode cX5_check 123 = .ok (.iload 4, 2) := by decide +kernel
theorem dX5_check_125 : decode cX5_check 125 = .ok (.iaload, 1) := by decide +kernel
theorem dX5_check_126 : decode cX5_check 126 = .ok (.iastore, 1) := by decide +kernel
theorem dX5_check_127 : decode cX5_check 127 = .ok (.iinc 4 1, 3) := by decide +kernel
theorem dX5_check_130 : decode cX5_check 130 = .ok (.goto (-31), 3) := by decide +kernel
theorem dX5_check_133 : decode cX5_check 133 = .ok (.aload_n 0, 1) := by decide +kernel
theorem dX5_check_134 : decode cX5_check 134 = .ok (.aload_n 0, 1) := by decide +kernel
theorem dX5_check_135 : decode cX5_check 135 = .ok (.getfield 112, 3) := by decide +kernel
theorem dX5_check_138 : decode cX5_check 138 = .ok (.invokevirtual 115, 3) := by decide +kernel
theorem dX5_check_141 : decode cX5_check 141 = .ok (.ifCond .eq 22, 3) := by decide +kernel
theorem dX5_check_144 : decode cX5_check 144 = .ok (.aload_n 0, 1) := by decide +kernel
theorem dX5_check_145 : decode cX5_check 145 = .ok (.iconst 3, 1) := by decide +kernel
theorem dX5_check_146 : decode cX5_check 146 = .ok (.putfield 71, 3) := by decide +kernel
theorem dX5_check_149 : decode cX5_check 149 = .ok (.aload_n 0, 1) := by decide +kernel
theorem dX5_check_150 : decode cX5_check 150 = .ok (.sipush 500, 3) := by decide +kernel
theorem dX5_check_153 : decode cX5_check 153 = .ok (.aload_n 0, 1) := by decide +kernel
theorem dX5_check_154 : decode cX5_check 154 = .ok (.getfield 112, 3) := by decide +kernel
theorem dX5_check_157 : decode cX5_check 157 = .ok (.iadd, 1) := by decide +kernel
theorem dX5_check_158 : decode cX5_check 158 = .ok (.putfield 121, 3) := by decide +kernel
theorem dX5_check_161 : decode cX5_check 161 = .ok (.iconst 0, 1) := by decide +kernel
theorem dX5_check_162 : decode cX5_check 162 = .ok (.ireturn, 1) := by decide +kernel
theorem dX5_check_163 : decode cX5_check 163 = .ok (.aload_n 0, 1) := by decide +kernel
theorem dX5_check_164 : decode cX5_check 164 = .ok (.dup, 1) := by decide +kernel
theorem dX5_check_165 : decode cX5_check 165 = .ok (.getfield 112, 3) := by decide +kernel
theorem dX5_check_168 : decode cX5_check 168 = .ok (.iconst 1, 1) := by decide +kernel
theorem dX5_check_169 : decode cX5_check 169 = .ok (.iadd, 1) := by decide +kernel
theorem dX5_check_170 : decode cX5_check 170 = .ok (.putfield 112, 3) := by decide +kernel
theorem dX5_check_173 : decode cX5_check 173 = .ok (.aload_n 0, 1) := by decide +kernel
theorem dX5_check_174 : decode cX5_check 174 = .ok (.getfield 112, 3) := by decide +kernel
theorem dX5_check_177 : decode cX5_check 177 = .ok (.iconst 1, 1) := by decide +kernel
theorem dX5_check_178 : decode cX5_check 178 = .ok (.isub, 1) := by decide +kernel
theorem dX5_check_179 : decode cX5_check 179 = .ok (.ireturn, 1) := by decide +kernel
theorem dX5_remember_0 : decode cX5_remember 0 = .ok (.aload_n 0, 1) := by decide +kernel
theorem dX5_remember_1 : decode cX5_remember 1 = .ok (.aload_n 0, 1) := by decide +kernel
theorem dX5_remember_2 : decode cX5_remember 2 = .ok (.getfield 82, 3) := by decide +kernel
theorem dX5_remember_5 : decode cX5_remember 5 = .ok (.putfield 130, 3) := by decide +kernel
theorem dX5_remember_8 : decode cX5_remember 8 = .ok (.iconst 0, 1) := by decide +kernel
theorem dX5_remember_9 : decode cX5_remember 9 = .ok (.istore_n 1, 1) := by decide +kernel
theorem dX5_remember_10 : decode cX5_remember 10 = .ok (.iload_n 1, 1) := by decide +kernel
theorem dX5_remember_11 : decode cX5_remember 11 = .ok (.aload_n 0, 1) := by decide +kernel
theorem dX5_remember_12 : decode cX5_remember 12 = .ok (.getfield 82, 3) := by decide +kernel
theorem dX5_remember_15 : decode cX5_remember 15 = .ok (.if_icmp .ge 28, 3) := by decide +kernel
theorem dX5_remember_18 : decode cX5_remember 18 = .ok (.aload_n 0, 1) := by decide +kernel
theorem dX5_remember_19 : decode cX5_remember 19 = .ok (.getfield 19, 3) := by decide +kernel
theorem dX5_remember_22 : decode cX5_remember 22 = .ok (.iload_n 1, 1) := by decide +kernel
theorem dX5_remember_23 : decode cX5_remember 23 = .ok (.aload_n 0, 1) := by decide +kernel
theorem dX5_remember_24 : decode cX5_remember 24 = .ok (.getfield 13, 3) := by decide +kernel
theorem dX5_remember_27 : decode cX5_remember 27 = .ok (.iload_n 1, 1) := by decide +kernel
theorem dX5_remember_28 : decode cX5_remember 28 = .ok (.iaload, 1) := by decide +kernel
theorem dX5_remember_29 : decode cX5_remember 29 = .ok (.iastore, 1) := by decide +kernel
theorem dX5_remember_30 : decode cX5_remember 30 = .ok (.aload_n 0, 1) := by decide +kernel
theorem dX5_remember_31 : decode cX5_remember 31 = .ok (.getfield 25, 3) := by decide +kernel
theorem dX5_remember_34 : decode cX5_remember 34 = .ok (.iload_n 1, 1) := by decide +kernel
theorem dX5_remember_35 : decode cX5_remember 35 = .ok (.iconst 0, 1) := by decide +kernel
theorem dX5_remember_36 : decode cX5_remember 36 = .ok (.bastore, 1) := by decide +kernel
theorem dX5_remember_37 : decode cX5_remember 37 = .ok (.iinc 1 1, 3) := by decide +kernel
theorem dX5_remember_40 : decode cX5_remember 40 = .ok (.goto (-30), 3) := by decide +kernel
theorem dX5_remember_43 : decode cX5_remember 43 = .ok (.iconst 0, 1) := by decide +kernel
theorem dX5_remember_44 : decode cX5_remember 44 = .ok (.istore_n 1, 1) := by decide +kernel
theorem dX5_remember_45 : decode cX5_remember 45 = .ok (.iload_n 1, 1) := by decide +kernel
theorem dX5_remember_46 : decode cX5_remember 46 = .ok (.iconst 4, 1) := by decide +kernel
theorem dX5_remember_47 : decode cX5_remember 47 = .ok (.aload_n 0, 1) := by decide +kernel
theorem dX5_remember_48 : decode cX5_remember 48 = .ok (.getfield 82, 3) := by decide +kernel
theorem dX5_remember_51 : decode cX5_remember 51 = .ok (.imul, 1) := by decide +kernel
theorem dX5_remember_52 : decode cX5_remember 52 = .ok (.if_icmp .ge 21, 3) := by decide +kernel
theorem dX5_remember_55 : decode cX5_remember 55 = .ok (.aload_n 0, 1) := by decide +kernel
theorem dX5_remember_56 : decode cX5_remember 56 = .ok (.getfield 22, 3) := by decide +kernel
theorem dX5_remember_59 : decode cX5_remember 59 = .ok (.iload_n 1, 1) := by decide +kernel
theorem dX5_remember_60 : decode cX5_remember 60 = .ok (.aload_n 0, 1) := by decide +kernel
theorem dX5_remember_61 : decode cX5_remember 61 = .ok (.getfield 16, 3) := by decide +kernel
theorem dX5_remember_64 : decode cX5_remember 64 = .ok (.iload_n 1, 1) := by decide +kernel
theorem dX5_remember_65 : decode cX5_remember 65 = .ok (.iaload, 1) := by decide +kernel
theorem dX5_remember_66 : decode cX5_remember 66 = .ok (.iastore, 1) := by decide +kernel
theorem dX5_remember_67 : decode cX5_remember 67 = .ok (.iinc 1 1, 3) := by decide +kernel
theorem dX5_remember_70 : decode cX5_remember 70 = .ok (.goto (-25), 3) := by decide +kernel
theorem dX5_remember_73 : decode cX5_remember 73 = .ok (.return_, 1) := by decide +kernel
theorem dX5_restore_0 : decode cX5_restore 0 = .ok (.aload_n 0, 1) := by decide +kernel
theorem dX5_restore_1 : decode cX5_restore 1 = .ok (.aload_n 0, 1) := by decide +kernel
theorem dX5_restore_2 : decode cX5_restore 2 = .ok (.getfield 130, 3) := by decide +kernel
theorem dX5_restore_5 : decode cX5_restore 5 = .ok (.putfield 82, 3) := by decide +kernel
theorem dX5_restore_8 : decode cX5_restore 8 = .ok (.iconst 0, 1) := by decide +kernel
theorem dX5_restore_9 : decode cX5_restore 9 = .ok (.istore_n 1, 1) := by decide +kernel
theorem dX5_restore_10 : decode cX5_restore 10 = .ok (.iload_n 1, 1) := by decide +kernel
theorem dX5_restore_11 : decode cX5_restore 11 = .ok (.aload_n 0, 1) := by decide +kernel
theorem dX5_restore_12 : decode cX5_restore 12 = .ok (.getfield 82, 3) := by decide +kernel
theorem dX5_restore_15 : decode cX5_restore 15 = .ok (.if_icmp .ge 21, 3) := by decide +kernel
theorem dX5_restore_18 : decode cX5_restore 18 = .ok (.aload_n 0, 1) := by decide +kernel
theorem dX5_restore_19 : decode cX5_restore 19 = .ok (.getfield 13, 3) := by decide +kernel
theorem dX5_restore_22 : decode cX5_restore 22 = .ok (.iload_n 1, 1) := by decide +kernel
theorem dX5_restore_23 : decode cX5_restore 23 = .ok (.aload_n 0, 1) := by decide +kernel
theorem dX5_restore_24 : decode cX5_restore 24 = .ok (.getfield 19, 3) := by decide +kernel
theorem dX5_restore_27 : decode cX5_restore 27 = .ok (.iload_n 1, 1) := by decide +kernel
theorem dX5_restore_28 : decode cX5_restore 28 = .ok (.iaload, 1) := by decide +kernel
theorem dX5_restore_29 : decode cX5_restore 29 = .ok (.iastore, 1) := by decide +kernel
theorem dX5_restore_30 : decode cX5_restore 30 = .ok (.iinc 1 1, 3) := by decide +kernel
theorem dX5_restore_33 : decode cX5_restore 33 = .ok (.goto (-23), 3) := by decide +kernel
theorem dX5_restore_36 : decode cX5_restore 36 = .ok (.iconst 0, 1) := by decide +kernel
theorem dX5_restore_37 : decode cX5_restore 37 = .ok (.istore_n 1, 1) := by decide +kernel
theorem dX5_restore_38 : decode cX5_restore 38 = .ok (.iload_n 1, 1) := by decide +kernel
theorem dX5_restore_39 : decode cX5_restore 39 = .ok (.iconst 4, 1) := by decide +kernel
theorem dX5_restore_40 : decode cX5_restore 40 = .ok (.aload_n 0, 1) := by decide +kernel
theorem dX5_restore_41 : decode cX5_restore 41 = .ok (.getfield 82, 3) := by decide +kernel
theorem dX5_restore_44 : decode cX5_restore 44 = .ok (.imul, 1) := by decide +kernel
theorem dX5_restore_45 : decode cX5_restore 45 = .ok (.if_icmp .ge 21, 3) := by decide +kernel
theorem dX5_restore_48 : decode cX5_restore 48 = .ok (.aload_n 0, 1) := by decide +kernel
theorem dX5_restore_49 : decode cX5_restore 49 = .ok (.getfield 16, 3) := by decide +kernel
theorem dX5_restore_52 : decode cX5_restore 52 = .ok (.iload_n 1, 1) := by decide +kernel
theorem dX5_restore_53 : decode cX5_restore 53 = .ok (.aload_n 0, 1) := by decide +kernel
theorem dX5_restore_54 : decode cX5_restore 54 = .ok (.getfield 22, 3) := by decide +kernel
theorem dX5_restore_57 : decode cX5_restore 57 = .ok (.iload_n 1, 1) := by decide +kernel
theorem dX5_restore_58 : decode cX5_restore 58 = .ok (.iaload, 1) := by decide +kernel
theorem dX5_restore_59 : decode cX5_restore 59 = .ok (.iastore, 1) := by decide +kernel
theorem dX5_restore_60 : decode cX5_restore 60 = .ok (.iinc 1 1, 3) := by decide +kernel
theorem dX5_restore_63 : decode cX5_restore 63 = .ok (.goto (-25), 3) := by decide +kernel
theorem dX5_restore_66 : decode cX5_restore 66 = .ok (.return_, 1) := by decide +kernel
set_option maxRecDepth 20000 in
theorem ggX5_settle_X5_wrong : GoodIn wsX5_settle wsX5_wrong := goodIn_r _ [6, 7, 8, 9, 10, 11, 12, 13, 14, 15, 5, 16, 17, 18, 19, 20, 21, 22, 23, 24, 25, 26, 27, 28, 29, 30, 31, 32, 33, 34, 35, 36, 37, 38, 39, 40, 41, 42, 43, 44, 45, 46, 54, 55, 56, 57, 58, 59, 60, 61, 62, 63, 64, 65, 66, 67, 68, 69, 70, 71, 72, 73, 74, 75, 76, 77, 78, 79, 80, 81, 82, 83, 84] (by decide +kernel) (by decide +kernel)
set_option maxRecDepth 20000 in
theorem gX5_settle_X5_wrong : GoodIn wsX5_settle (wsV RX5 133 RX5 yX5_wrong wsX5_wrong) := goodIn_app (goodIn_of _ (by decide +kernel)) ggX5_settle_X5_wrong
set_option maxRecDepth 20000 in
theorem ggX5_settle_X5_restore : GoodIn wsX5_settle wsX5_restore := goodIn_r _ [50, 51, 17, 18, 52, 19, 53, 54, 55, 56, 57, 58, 59, 60, 61, 62, 63, 64, 65, 66, 67, 68, 69, 70, 71, 72, 73, 74, 75, 76, 77, 78, 79, 80, 81, 82, 83, 84] (by decide +kernel) (by decide +kernel)
set_option maxRecDepth 20000 in
theorem gX5_settle_X5_restore : GoodIn wsX5_settle (wsV RX5 137 RX5 yX5_restore wsX5_restore) := goodIn_app (goodIn_of _ (by decide +kernel)) ggX5_settle_X5_restore
theorem dX5_settle_0 : decode cX5_settle 0 = .ok (.iload_n 1, 1) := by decide +kernel
theorem dX5_settle_1 : decode cX5_settle 1 = .ok (.ifCond .le 7, 3) := by decide +kernel
theorem dX5_settle_4 : decode cX5_settle 4 = .ok (.iload_n 1, 1) := by decide +kernel
theorem dX5_settle_5 : decode cX5_settle 5 = .ok (.goto 7, 3) := by decide +kernel
theorem dX5_settle_8 : decode cX5_settle 8 = .ok (.aload_n 0, 1) := by decide +kernel
theorem dX5_settle_9 : decode cX5_settle 9 = .ok (.invokevirtual 133, 3) := by decide +kernel
theorem dX5_settle_12 : decode cX5_settle 12 = .ok (.istore_n 3, 1) := by decide +kernel
theorem dX5_settle_13 : decode cX5_settle 13 = .ok (.iload_n 3, 1) := by decide +kernel
theorem dX5_settle_14 : decode cX5_settle 14 = .ok (.ifCond .ne 5, 3) := by decide +kernel
theorem dX5_settle_17 : decode cX5_settle 17 = .ok (.iconst 0, 1) := by decide +kernel
theorem dX5_settle_18 : decode cX5_settle 18 = .ok (.ireturn, 1) := by decide +kernel
theorem dX5_settle_19 : decode cX5_settle 19 = .ok (.aload_n 0, 1) := by decide +kernel
theorem dX5_settle_20 : decode cX5_settle 20 = .ok (.invokevirtual 137, 3) := by decide +kernel
theorem dX5_settle_23 : decode cX5_settle 23 = .ok (.aload_n 0, 1) := by decide +kernel
theorem dX5_settle_24 : decode cX5_settle 24 = .ok (.iload_n 3, 1) := by decide +kernel
theorem dX5_settle_25 : decode cX5_settle 25 = .ok (.putfield 121, 3) := by decide +kernel
theorem dX5_settle_28 : decode cX5_settle 28 = .ok (.iload_n 2, 1) := by decide +kernel
theorem dX5_settle_29 : decode cX5_settle 29 = .ok (.ireturn, 1) := by decide +kernel
theorem dX5_referred_0 : decode cX5_referred 0 = .ok (.aload_n 0, 1) := by decide +kernel
theorem dX5_referred_1 : decode cX5_referred 1 = .ok (.getfield 22, 3) := by decide +kernel
theorem dX5_referred_4 : decode cX5_referred 4 = .ok (.iconst 4, 1) := by decide +kernel
theorem dX5_referred_5 : decode cX5_referred 5 = .ok (.iload_n 2, 1) := by decide +kernel
theorem dX5_referred_6 : decode cX5_referred 6 = .ok (.imul, 1) := by decide +kernel
theorem dX5_referred_7 : decode cX5_referred 7 = .ok (.aload_n 0, 1) := by decide +kernel
theorem dX5_referred_8 : decode cX5_referred 8 = .ok (.getfield 32, 3) := by decide +kernel
theorem dX5_referred_11 : decode cX5_referred 11 = .ok (.iload_n 1, 1) := by decide +kernel
theorem dX5_referred_12 : decode cX5_referred 12 = .ok (.iaload, 1) := by decide +kernel
theorem dX5_referred_13 : decode cX5_referred 13 = .ok (.iadd, 1) := by decide +kernel
theorem dX5_referred_14 : decode cX5_referred 14 = .ok (.iaload, 1) := by decide +kernel
theorem dX5_referred_15 : decode cX5_referred 15 = .ok (.istore 4, 2) := by decide +kernel
theorem dX5_referred_17 : decode cX5_referred 17 = .ok (.aload_n 0, 1) := by decide +kernel
theorem dX5_referred_18 : decode cX5_referred 18 = .ok (.getfield 19, 3) := by decide +kernel
theorem dX5_referred_21 : decode cX5_referred 21 = .ok (.iload_n 2, 1) := by decide +kernel
theorem dX5_referred_22 : decode cX5_referred 22 = .ok (.iaload, 1) := by decide +kernel
theorem dX5_referred_23 : decode cX5_referred 23 = .ok (.aload_n 0, 1) := by decide +kernel
theorem dX5_referred_24 : decode cX5_referred 24 = .ok (.getfield 29, 3) := by decide +kernel
theorem dX5_referred_27 : decode cX5_referred 27 = .ok (.iload_n 1, 1) := by decide +kernel
theorem dX5_referred_28 : decode cX5_referred 28 = .ok (.iaload, 1) := by decide +kernel
theorem dX5_referred_29 : decode cX5_referred 29 = .ok (.if_icmp .ne 40, 3) := by decide +kernel
theorem dX5_referred_32 : decode cX5_referred 32 = .ok (.aload_n 0, 1) := by decide +kernel
theorem dX5_referred_33 : decode cX5_referred 33 = .ok (.getfield 19, 3) := by decide +kernel
theorem dX5_referred_36 : decode cX5_referred 36 = .ok (.iload_n 3, 1) := by decide +kernel
theorem dX5_referred_37 : decode cX5_referred 37 = .ok (.iaload, 1) := by decide +kernel
theorem dX5_referred_38 : decode cX5_referred 38 = .ok (.aload_n 0, 1) := by decide +kernel
theorem dX5_referred_39 : decode cX5_referred 39 = .ok (.getfield 35, 3) := by decide +kernel
theorem dX5_referred_42 : decode cX5_referred 42 = .ok (.iload_n 1, 1) := by decide +kernel
theorem dX5_referred_43 : decode cX5_referred 43 = .ok (.iaload, 1) := by decide +kernel
theorem dX5_referred_44 : decode cX5_referred 44 = .ok (.if_icmp .ne 25, 3) := by decide +kernel
theorem dX5_referred_47 : decode cX5_referred 47 = .ok (.iload 4, 2) := by decide +kernel
theorem dX5_referred_49 : decode cX5_referred 49 = .ok (.ifCond .eq 20, 3) := by decide +kernel
theorem dX5_referred_52 : decode cX5_referred 52 = .ok (.iload 4, 2) := by decide +kernel
theorem dX5_referred_54 : decode cX5_referred 54 = .ok (.aload_n 0, 1) := by decide +kernel
theorem dX5_referred_55 : decode cX5_referred 55 = .ok (.getfield 22, 3) := by decide +kernel
theorem dX5_referred_58 : decode cX5_referred 58 = .ok (.iconst 4, 1) := by decide +kernel
theorem dX5_referred_59 : decode cX5_referred 59 = .ok (.iload_n 3, 1) := by decide +kernel
theorem dX5_referred_60 : decode cX5_referred 60 = .ok (.imul, 1) := by decide +kernel
theorem dX5_referred_61 : decode cX5_referred 61 = .ok (.iaload, 1) := by decide +kernel
theorem dX5_referred_62 : decode cX5_referred 62 = .ok (.if_icmp .ne 7, 3) := by decide +kernel
theorem dX5_referred_65 : decode cX5_referred 65 = .ok (.iconst 1, 1) := by decide +kernel
theorem dX5_referred_66 : decode cX5_referred 66 = .ok (.goto 4, 3) := by decide +kernel
theorem dX5_referred_69 : decode cX5_referred 69 = .ok (.iconst 0, 1) := by decide +kernel
theorem dX5_referred_70 : decode cX5_referred 70 = .ok (.ireturn, 1) := by decide +kernel
set_option maxRecDepth 20000 in
theorem ggX5_insert_X5_isTable : GoodIn wsX5_insert wsX5_isTable := goodIn_r _ [10, 11, 69, 70, 71, 72, 73, 74, 75, 76, 77, 78, 79, 80, 81, 82, 83, 84, 85, 86, 87, 88, 89, 90, 91, 92, 93, 94, 95, 96, 97, 98, 99] (by decide +kernel) (by decide +kernel)
set_option maxRecDepth 20000 in
theorem gX5_insert_X5_isTable : GoodIn wsX5_insert (wsV RX5 78 RX5 yX5_isTable wsX5_isTable) := goodIn_app (goodIn_of _ (by decide +kernel)) ggX5_insert_X5_isTable
set_option maxRecDepth 20000 in
theorem ggX5_insert_X5_remember : GoodIn wsX5_insert wsX5_remember := goodIn_r _ [15, 1, 16, 17, 3, 18, 19, 4, 69, 70, 71, 72, 73, 74, 75, 76, 77, 78, 79, 80, 81, 82, 83, 84, 85, 86, 87, 88, 89, 90, 91, 92, 93, 94, 95, 96, 97, 98, 99] (by decide +kernel) (by decide +kernel)
set_option maxRecDepth 20000 in
theorem gX5_insert_X5_remember : GoodIn wsX5_insert (wsV RX5 140 RX5 yX5_remember wsX5_remember) := goodIn_app (goodIn_of _ (by decide +kernel)) ggX5_insert_X5_remember
set_option maxRecDepth 20000 in
theorem ggX5_insert_X5_settle : GoodIn wsX5_insert wsX5_settle := goodIn_r _ [23, 24, 25, 26, 27, 9, 28, 11, 29, 30, 31, 32, 33, 34, 35, 36, 37, 1, 3, 4, 38, 39, 40, 41, 42, 43, 44, 45, 46, 47, 48, 49, 50, 51, 52, 53, 54, 55, 56, 57, 58, 59, 60, 61, 62, 63, 64, 65, 66, 67, 68, 16, 17, 19, 69, 70, 71, 72, 73, 74, 75, 76, 77, 78, 79, 80, 81, 82, 83, 84, 85, 86, 87, 88, 89, 90, 91, 92, 93, 94, 95, 96, 97, 98, 99] (by decide +kernel) (by decide +kernel)
set_option maxRecDepth 20000 in
theorem gX5_insert_X5_settle : GoodIn wsX5_insert (wsV RX5 143 RX5 yX5_settle wsX5_settle) := goodIn_app (goodIn_of _ (by decide +kernel)) ggX5_insert_X5_settle
theorem dX5_insert_0 : decode cX5_insert 0 = .ok (.aload_n 0, 1) := by decide +kernel
theorem dX5_insert_1 : decode cX5_insert 1 = .ok (.aload_n 0, 1) := by decide +kernel
theorem dX5_insert_2 : decode cX5_insert 2 = .ok (.iload_n 1, 1) := by decide +kernel
theorem dX5_insert_3 : decode cX5_insert 3 = .ok (.invokevirtual 78, 3) := by decide +kernel
theorem dX5_insert_6 : decode cX5_insert 6 = .ok (.ifCond .eq 7, 3) := by decide +kernel
theorem dX5_insert_9 : decode cX5_insert 9 = .ok (.iload_n 2, 1) := by decide +kernel
theorem dX5_insert_10 : decode cX5_insert 10 = .ok (.ifCond .ne 7, 3) := by decide +kernel
theorem dX5_insert_13 : decode cX5_insert 13 = .ok (.iconst 1, 1) := by decide +kernel
theorem dX5_insert_14 : decode cX5_insert 14 = .ok (.goto 17, 3) := by decide +kernel
theorem dX5_insert_17 : decode cX5_insert 17 = .ok (.aload_n 0, 1) := by decide +kernel
theorem dX5_insert_18 : decode cX5_insert 18 = .ok (.getfield 82, 3) := by decide +kernel
theorem dX5_insert_21 : decode cX5_insert 21 = .ok (.bipush 24, 2) := by decide +kernel
theorem dX5_insert_23 : decode cX5_insert 23 = .ok (.if_icmp .ne 7, 3) := by decide +kernel
theorem dX5_insert_26 : decode cX5_insert 26 = .ok (.iconst 2, 1) := by decide +kernel
theorem dX5_insert_27 : decode cX5_insert 27 = .ok (.goto 4, 3) := by decide +kernel
theorem dX5_insert_30 : decode cX5_insert 30 = .ok (.iconst 0, 1) := by decide +kernel
theorem dX5_insert_31 : decode cX5_insert 31 = .ok (.putfield 71, 3) := by decide +kernel
theorem dX5_insert_34 : decode cX5_insert 34 = .ok (.aload_n 0, 1) := by decide +kernel
theorem dX5_insert_35 : decode cX5_insert 35 = .ok (.getfield 71, 3) := by decide +kernel
theorem dX5_insert_38 : decode cX5_insert 38 = .ok (.ifCond .le 4, 3) := by decide +kernel
theorem dX5_insert_41 : decode cX5_insert 41 = .ok (.return_, 1) := by decide +kernel
theorem dX5_insert_42 : decode cX5_insert 42 = .ok (.aload_n 0, 1) := by decide +kernel
theorem dX5_insert_43 : decode cX5_insert 43 = .ok (.invokevirtual 140, 3) := by decide +kernel
theorem dX5_insert_46 : decode cX5_insert 46 = .ok (.aload_n 0, 1) := by decide +kernel
theorem dX5_insert_47 : decode cX5_insert 47 = .ok (.getfield 13, 3) := by decide +kernel
theorem dX5_insert_50 : decode cX5_insert 50 = .ok (.aload_n 0, 1) := by decide +kernel
theorem dX5_insert_51 : decode cX5_insert 51 = .ok (.getfield 82, 3) := by decide +kernel
theorem dX5_insert_54 : decode cX5_insert 54 = .ok (.iload_n 1, 1) := by decide +kernel
theorem dX5_insert_55 : decode cX5_insert 55 = .ok (.iastore, 1) := by decide +kernel
theorem dX5_insert_56 : decode cX5_insert 56 = .ok (.aload_n 0, 1) := by decide +kernel
theorem dX5_insert_57 : decode cX5_insert 57 = .ok (.getfield 16, 3) := by decide +kernel
theorem dX5_insert_60 : decode cX5_insert 60 = .ok (.iconst 4, 1) := by decide +kernel
theorem dX5_insert_61 : decode cX5_insert 61 = .ok (.aload_n 0, 1) := by decide +kernel
theorem dX5_insert_62 : decode cX5_insert 62 = .ok (.getfield 82, 3) := by decide +kernel
theorem dX5_insert_65 : decode cX5_insert 65 = .ok (.imul, 1) := by decide +kernel
theorem dX5_insert_66 : decode cX5_insert 66 = .ok (.iload_n 2, 1) := by decide +kernel
theorem dX5_insert_67 : decode cX5_insert 67 = .ok (.iastore, 1) := by decide +kernel
theorem dX5_insert_68 : decode cX5_insert 68 = .ok (.aload_n 0, 1) := by decide +kernel
theorem dX5_insert_69 : decode cX5_insert 69 = .ok (.getfield 16, 3) := by decide +kernel
theorem dX5_insert_72 : decode cX5_insert 72 = .ok (.iconst 4, 1) := by decide +kernel
theorem dX5_insert_73 : decode cX5_insert 73 = .ok (.aload_n 0, 1) := by decide +kernel
theorem dX5_insert_74 : decode cX5_insert 74 = .ok (.getfield 82, 3) := by decide +kernel
theorem dX5_insert_77 : decode cX5_insert 77 = .ok (.imul, 1) := by decide +kernel
theorem dX5_insert_78 : decode cX5_insert 78 = .ok (.iconst 1, 1) := by decide +kernel
theorem dX5_insert_79 : decode cX5_insert 79 = .ok (.iadd, 1) := by decide +kernel
theorem dX5_insert_80 : decode cX5_insert 80 = .ok (.iload_n 3, 1) := by decide +kernel
theorem dX5_insert_81 : decode cX5_insert 81 = .ok (.iastore, 1) := by decide +kernel
theorem dX5_insert_82 : decode cX5_insert 82 = .ok (.aload_n 0, 1) := by decide +kernel
theorem dX5_insert_83 : decode cX5_insert 83 = .ok (.getfield 16, 3) := by decide +kernel
theorem dX5_insert_86 : decode cX5_insert 86 = .ok (.iconst 4, 1) := by decide +kernel
theorem dX5_insert_87 : decode cX5_insert 87 = .ok (.aload_n 0, 1) := by decide +kernel
theorem dX5_insert_88 : decode cX5_insert 88 = .ok (.getfield 82, 3) := by decide +kernel
theorem dX5_insert_91 : decode cX5_insert 91 = .ok (.imul, 1) := by decide +kernel
theorem dX5_insert_92 : decode cX5_insert 92 = .ok (.iconst 2, 1) := by decide +kernel
theorem dX5_insert_93 : decode cX5_insert 93 = .ok (.iadd, 1) := by decide +kernel
theorem dX5_insert_94 : decode cX5_insert 94 = .ok (.aload_n 0, 1) := by decide +kernel
theorem dX5_insert_95 : decode cX5_insert 95 = .ok (.getfield 7, 3) := by decide +kernel
theorem dX5_insert_98 : decode cX5_insert 98 = .ok (.iload_n 1, 1) := by decide +kernel
theorem dX5_insert_99 : decode cX5_insert 99 = .ok (.iaload, 1) := by decide +kernel
theorem dX5_insert_100 : decode cX5_insert 100 = .ok (.iconst 2, 1) := by decide +kernel
theorem dX5_insert_101 : decode cX5_insert 101 = .ok (.if_icmp .le 8, 3) := by decide +kernel
theorem dX5_insert_104 : decode cX5_insert 104 = .ok (.iload 4, 2) := by decide +kernel
theorem dX5_insert_106 : decode cX5_insert 106 = .ok (.goto 4, 3) := by decide +kernel
theorem dX5_insert_109 : decode cX5_insert 109 = .ok (.iconst 0, 1) := by decide +kernel
theorem dX5_insert_110 : decode cX5_insert 110 = .ok (.iastore, 1) := by decide +kernel
theorem dX5_insert_111 : decode cX5_insert 111 = .ok (.aload_n 0, 1) := by decide +kernel
theorem dX5_insert_112 : decode cX5_insert 112 = .ok (.getfield 16, 3) := by decide +kernel
theorem dX5_insert_115 : decode cX5_insert 115 = .ok (.iconst 4, 1) := by decide +kernel
theorem dX5_insert_116 : decode cX5_insert 116 = .ok (.aload_n 0, 1) := by decide +kernel
theorem dX5_insert_117 : decode cX5_insert 117 = .ok (.getfield 82, 3) := by decide +kernel
theorem dX5_insert_120 : decode cX5_insert 120 = .ok (.imul, 1) := by decide +kernel
theorem dX5_insert_121 : decode cX5_insert 121 = .ok (.iconst 3, 1) := by decide +kernel
theorem dX5_insert_122 : decode cX5_insert 122 = .ok (.iadd, 1) := by decide +kernel
theorem dX5_insert_123 : decode cX5_insert 123 = .ok (.aload_n 0, 1) := by decide +kernel
theorem dX5_insert_124 : decode cX5_insert 124 = .ok (.getfield 7, 3) := by decide +kernel
theorem dX5_insert_127 : decode cX5_insert 127 = .ok (.iload_n 1, 1) := by decide +kernel
theorem dX5_insert_128 : decode cX5_insert 128 = .ok (.iaload, 1) := by decide +kernel
theorem dX5_insert_129 : decode cX5_insert 129 = .ok (.iconst 3, 1) := by decide +kernel
theorem dX5_insert_130 : decode cX5_insert 130 = .ok (.if_icmp .le 8, 3) := by decide +kernel
theorem dX5_insert_133 : decode cX5_insert 133 = .ok (.iload 5, 2) := by decide +kernel
theorem dX5_insert_135 : decode cX5_insert 135 = .ok (.goto 4, 3) := by decide +kernel
theorem dX5_insert_138 : decode cX5_insert 138 = .ok (.iconst 0, 1) := by decide +kernel
theorem dX5_insert_139 : decode cX5_insert 139 = .ok (.iastore, 1) := by decide +kernel
theorem dX5_insert_140 : decode cX5_insert 140 = .ok (.aload_n 0, 1) := by decide +kernel
theorem dX5_insert_141 : decode cX5_insert 141 = .ok (.dup, 1) := by decide +kernel
theorem dX5_insert_142 : decode cX5_insert 142 = .ok (.getfield 82, 3) := by decide +kernel
theorem dX5_insert_145 : decode cX5_insert 145 = .ok (.iconst 1, 1) := by decide +kernel
theorem dX5_insert_146 : decode cX5_insert 146 = .ok (.iadd, 1) := by decide +kernel
theorem dX5_insert_147 : decode cX5_insert 147 = .ok (.putfield 82, 3) := by decide +kernel
theorem dX5_insert_150 : decode cX5_insert 150 = .ok (.aload_n 0, 1) := by decide +kernel
theorem dX5_insert_151 : decode cX5_insert 151 = .ok (.aload_n 0, 1) := by decide +kernel
theorem dX5_insert_152 : decode cX5_insert 152 = .ok (.iconst 0, 1) := by decide +kernel
theorem dX5_insert_153 : decode cX5_insert 153 = .ok (.iconst 3, 1) := by decide +kernel
theorem dX5_insert_154 : decode cX5_insert 154 = .ok (.invokevirtual 143, 3) := by decide +kernel
theorem dX5_insert_157 : decode cX5_insert 157 = .ok (.putfield 71, 3) := by decide +kernel
theorem dX5_insert_160 : decode cX5_insert 160 = .ok (.return_, 1) := by decide +kernel
set_option maxRecDepth 20000 in
theorem ggX5_spread_X5_referred : GoodIn wsX5_spread wsX5_referred := goodIn_r _ [9, 10, 11, 12, 13, 14, 15, 16, 17, 18, 19, 20, 21, 22, 23, 24, 25, 26, 27, 28, 29, 30, 31, 32, 33, 34, 35, 36, 37, 38, 39, 40, 41, 42, 43, 44, 45] (by decide +kernel) (by decide +kernel)
set_option maxRecDepth 20000 in
theorem gX5_spread_X5_referred : GoodIn wsX5_spread (wsV RX5 146 RX5 yX5_referred wsX5_referred) := goodIn_app (goodIn_of _ (by decide +kernel)) ggX5_spread_X5_referred
theorem dX5_spread_0 : decode cX5_spread 0 = .ok (.iconst 1, 1) := by decide +kernel
theorem dX5_spread_1 : decode cX5_spread 1 = .ok (.istore_n 1, 1) := by decide +kernel
theorem dX5_spread_2 : decode cX5_spread 2 = .ok (.iload_n 1, 1) := by decide +kernel
theorem dX5_spread_3 : decode cX5_spread 3 = .ok (.ifCond .eq 107, 3) := by decide +kernel
theorem dX5_spread_6 : decode cX5_spread 6 = .ok (.iconst 0, 1) := by decide +kernel
theorem dX5_spread_7 : decode cX5_spread 7 = .ok (.istore_n 1, 1) := by decide +kernel
theorem dX5_spread_8 : decode cX5_spread 8 = .ok (.iconst 0, 1) := by decide +kernel
theorem dX5_spread_9 : decode cX5_spread 9 = .ok (.istore_n 2, 1) := by decide +kernel
theorem dX5_spread_10 : decode cX5_spread 10 = .ok (.iload_n 2, 1) := by decide +kernel
theorem dX5_spread_11 : decode cX5_spread 11 = .ok (.aload_n 0, 1) := by decide +kernel
theorem dX5_spread_12 : decode cX5_spread 12 = .ok (.getfield 106, 3) := by decide +kernel
theorem dX5_spread_15 : decode cX5_spread 15 = .ok (.if_icmp .ge 92, 3) := by decide +kernel
theorem dX5_spread_18 : decode cX5_spread 18 = .ok (.iconst 0, 1) := by decide +kernel
theorem dX5_spread_19 : decode cX5_spread 19 = .ok (.istore_n 3, 1) := by decide +kernel
theorem dX5_spread_20 : decode cX5_spread 20 = .ok (.iload_n 3, 1) := by decide +kernel
theorem dX5_spread_21 : decode cX5_spread 21 = .ok (.aload_n 0, 1) := by decide +kernel
theorem dX5_spread_22 : decode cX5_spread 22 = .ok (.getfield 82, 3) := by decide +kernel
theorem dX5_spread_25 : decode cX5_spread 25 = .ok (.if_icmp .ge 76, 3) := by decide +kernel
theorem dX5_spread_28 : decode cX5_spread 28 = .ok (.iconst 0, 1) := by decide +kernel
theorem dX5_spread_29 : decode cX5_spread 29 = .ok (.istore 4, 2) := by decide +kernel
theorem dX5_spread_31 : decode cX5_spread 31 = .ok (.iload 4, 2) := by decide +kernel
theorem dX5_spread_33 : decode cX5_spread 33 = .ok (.aload_n 0, 1) := by decide +kernel
theorem dX5_spread_34 : decode cX5_spread 34 = .ok (.getfield 82, 3) := by decide +kernel
theorem dX5_spread_37 : decode cX5_spread 37 = .ok (.if_icmp .ge 58, 3) := by decide +kernel
theorem dX5_spread_40 : decode cX5_spread 40 = .ok (.aload_n 0, 1) := by decide +kernel
theorem dX5_spread_41 : decode cX5_spread 41 = .ok (.getfield 38, 3) := by decide +kernel
theorem dX5_spread_44 : decode cX5_spread 44 = .ok (.iload_n 2, 1) := by decide +kernel
theorem dX5_spread_45 : decode cX5_spread 45 = .ok (.iaload, 1) := by decide +kernel
theorem dX5_spread_46 : decode cX5_spread 46 = .ok (.iconst 1, 1) := by decide +kernel
theorem dX5_spread_47 : decode cX5_spread 47 = .ok (.if_icmp .ne 42, 3) := by decide +kernel
theorem dX5_spread_50 : decode cX5_spread 50 = .ok (.aload_n 0, 1) := by decide +kernel
theorem dX5_spread_51 : decode cX5_spread 51 = .ok (.getfield 25, 3) := by decide +kernel
theorem dX5_spread_54 : decode cX5_spread 54 = .ok (.iload 4, 2) := by decide +kernel
theorem dX5_spread_56 : decode cX5_spread 56 = .ok (.baload, 1) := by decide +kernel
theorem dX5_spread_57 : decode cX5_spread 57 = .ok (.ifCond .eq 32, 3) := by decide +kernel
theorem dX5_spread_60 : decode cX5_spread 60 = .ok (.aload_n 0, 1) := by decide +kernel
theorem dX5_spread_61 : decode cX5_spread 61 = .ok (.getfield 25, 3) := by decide +kernel
theorem dX5_spread_64 : decode cX5_spread 64 = .ok (.iload_n 3, 1) := by decide +kernel
theorem dX5_spread_65 : decode cX5_spread 65 = .ok (.baload, 1) := by decide +kernel
theorem dX5_spread_66 : decode cX5_spread 66 = .ok (.ifCond .ne 23, 3) := by decide +kernel
theorem dX5_spread_69 : decode cX5_spread 69 = .ok (.aload_n 0, 1) := by decide +kernel
theorem dX5_spread_70 : decode cX5_spread 70 = .ok (.iload_n 2, 1) := by decide +kernel
theorem dX5_spread_71 : decode cX5_spread 71 = .ok (.iload_n 3, 1) := by decide +kernel
theorem dX5_spread_72 : decode cX5_spread 72 = .ok (.iload 4, 2) := by decide +kernel
theorem dX5_spread_74 : decode cX5_spread 74 = .ok (.invokevirtual 146, 3) := by decide +kernel
theorem dX5_spread_77 : decode cX5_spread 77 = .ok (.ifCond .eq 12, 3) := by decide +kernel
theorem dX5_spread_80 : decode cX5_spread 80 = .ok (.aload_n 0, 1) := by decide +kernel
theorem dX5_spread_81 : decode cX5_spread 81 = .ok (.getfield 25, 3) := by decide +kernel
theorem dX5_spread_84 : decode cX5_spread 84 = .ok (.iload_n 3, 1) := by decide +kernel
theorem dX5_spread_85 : decode cX5_spread 85 = .ok (.iconst 1, 1) := by decide +kernel
theorem dX5_spread_86 : decode cX5_spread 86 = .ok (.bastore, 1) := by decide +kernel
theorem dX5_spread_87 : decode cX5_spread 87 = .ok (.iconst 1, 1) := by decide +kernel
theorem dX5_spread_88 : decode cX5_spread 88 = .ok (.istore_n 1, 1) := by decide +kernel
theorem dX5_spread_89 : decode cX5_spread 89 = .ok (.iinc 4 1, 3) := by decide +kernel
theorem dX5_spread_92 : decode cX5_spread 92 = .ok (.goto (-61), 3) := by decide +kernel
theorem dX5_spread_95 : decode cX5_spread 95 = .ok (.iinc 3 1, 3) := by decide +kernel
theorem dX5_spread_98 : decode cX5_spread 98 = .ok (.goto (-78), 3) := by decide +kernel
theorem dX5_spread_101 : decode cX5_spread 101 = .ok (.iinc 2 1, 3) := by decide +kernel
theorem dX5_spread_104 : decode cX5_spread 104 = .ok (.goto (-94), 3) := by decide +kernel
theorem dX5_spread_107 : decode cX5_spread 107 = .ok (.goto (-105), 3) := by decide +kernel
theorem dX5_spread_110 : decode cX5_spread 110 = .ok (.return_, 1) := by decide +kernel
set_option maxRecDepth 20000 in
theorem ggX5_loosen_X5_referred : GoodIn wsX5_loosen wsX5_referred := goodIn_r _ [11, 12, 6, 13, 14, 15, 16, 17, 18, 19, 20, 21, 22, 23, 24, 25, 26, 27, 28, 29, 30, 31, 32, 33, 34, 35, 36, 37, 38, 39, 40, 41, 42, 43, 44, 45, 46] (by decide +kernel) (by decide +kernel)
set_option maxRecDepth 20000 in
theorem gX5_loosen_X5_referred : GoodIn wsX5_loosen (wsV RX5 146 RX5 yX5_referred wsX5_referred) := goodIn_app (goodIn_of _ (by decide +kernel)) ggX5_loosen_X5_referred
theorem dX5_loosen_0 : decode cX5_loosen 0 = .ok (.iconst 0, 1) := by decide +kernel
theorem dX5_loosen_1 : decode cX5_loosen 1 = .ok (.istore_n 1, 1) := by decide +kernel
theorem dX5_loosen_2 : decode cX5_loosen 2 = .ok (.aload_n 0, 1) := by decide +kernel
theorem dX5_loosen_3 : decode cX5_loosen 3 = .ok (.getfield 106, 3) := by decide +kernel
theorem dX5_loosen_6 : decode cX5_loosen 6 = .ok (.iconst 1, 1) := by decide +kernel
theorem dX5_loosen_7 : decode cX5_loosen 7 = .ok (.isub, 1) := by decide +kernel
theorem dX5_loosen_8 : decode cX5_loosen 8 = .ok (.istore_n 2, 1) := by decide +kernel
theorem dX5_loosen_9 : decode cX5_loosen 9 = .ok (.iload_n 2, 1) := by decide +kernel
theorem dX5_loosen_10 : decode cX5_loosen 10 = .ok (.ifCond .lt 130, 3) := by decide +kernel
theorem dX5_loosen_13 : decode cX5_loosen 13 = .ok (.iconst 0, 1) := by decide +kernel
theorem dX5_loosen_14 : decode cX5_loosen 14 = .ok (.istore_n 3, 1) := by decide +kernel
theorem dX5_loosen_15 : decode cX5_loosen 15 = .ok (.iload_n 3, 1) := by decide +kernel
theorem dX5_loosen_16 : decode cX5_loosen 16 = .ok (.aload_n 0, 1) := by decide +kernel
theorem dX5_loosen_17 : decode cX5_loosen 17 = .ok (.getfield 82, 3) := by decide +kernel
theorem dX5_loosen_20 : decode cX5_loosen 20 = .ok (.if_icmp .ge 114, 3) := by decide +kernel
theorem dX5_loosen_23 : decode cX5_loosen 23 = .ok (.iconst 0, 1) := by decide +kernel
theorem dX5_loosen_24 : decode cX5_loosen 24 = .ok (.istore 4, 2) := by decide +kernel
theorem dX5_loosen_26 : decode cX5_loosen 26 = .ok (.iload 4, 2) := by decide +kernel
theorem dX5_loosen_28 : decode cX5_loosen 28 = .ok (.aload_n 0, 1) := by decide +kernel
theorem dX5_loosen_29 : decode cX5_loosen 29 = .ok (.getfield 82, 3) := by decide +kernel
theorem dX5_loosen_32 : decode cX5_loosen 32 = .ok (.if_icmp .ge 96, 3) := by decide +kernel
theorem dX5_loosen_35 : decode cX5_loosen 35 = .ok (.aload_n 0, 1) := by decide +kernel
theorem dX5_loosen_36 : decode cX5_loosen 36 = .ok (.getfield 25, 3) := by decide +kernel
theorem dX5_loosen_39 : decode cX5_loosen 39 = .ok (.iload 4, 2) := by decide +kernel
theorem dX5_loosen_41 : decode cX5_loosen 41 = .ok (.baload, 1) := by decide +kernel
theorem dX5_loosen_42 : decode cX5_loosen 42 = .ok (.ifCond .eq 27, 3) := by decide +kernel
theorem dX5_loosen_45 : decode cX5_loosen 45 = .ok (.aload_n 0, 1) := by decide +kernel
theorem dX5_loosen_46 : decode cX5_loosen 46 = .ok (.getfield 25, 3) := by decide +kernel
theorem dX5_loosen_49 : decode cX5_loosen 49 = .ok (.iload_n 3, 1) := by decide +kernel
theorem dX5_loosen_50 : decode cX5_loosen 50 = .ok (.baload, 1) := by decide +kernel
theorem dX5_loosen_51 : decode cX5_loosen 51 = .ok (.ifCond .ne 18, 3) := by decide +kernel
theorem dX5_loosen_54 : decode cX5_loosen 54 = .ok (.aload_n 0, 1) := by decide +kernel
theorem dX5_loosen_55 : decode cX5_loosen 55 = .ok (.iload_n 2, 1) := by decide +kernel
theorem dX5_loosen_56 : decode cX5_loosen 56 = .ok (.iload_n 3, 1) := by decide +kernel
theorem dX5_loosen_57 : decode cX5_loosen 57 = .ok (.iload 4, 2) := by decide +kernel
theorem dX5_loosen_59 : decode cX5_loosen 59 = .ok (.invokevirtual 146, 3) := by decide +kernel
theorem dX5_loosen_62 : decode cX5_loosen 62 = .ok (.ifCond .eq 7, 3) := by decide +kernel
theorem dX5_loosen_65 : decode cX5_loosen 65 = .ok (.iconst 1, 1) := by decide +kernel
theorem dX5_loosen_66 : decode cX5_loosen 66 = .ok (.goto 4, 3) := by decide +kernel
theorem dX5_loosen_69 : decode cX5_loosen 69 = .ok (.iconst 0, 1) := by decide +kernel
theorem dX5_loosen_70 : decode cX5_loosen 70 = .ok (.istore 5, 2) := by decide +kernel
theorem dX5_loosen_72 : decode cX5_loosen 72 = .ok (.iload 5, 2) := by decide +kernel
theorem dX5_loosen_74 : decode cX5_loosen 74 = .ok (.ifCond .eq 17, 3) := by decide +kernel
theorem dX5_loosen_77 : decode cX5_loosen 77 = .ok (.aload_n 0, 1) := by decide +kernel
theorem dX5_loosen_78 : decode cX5_loosen 78 = .ok (.getfield 38, 3) := by decide +kernel
theorem dX5_loosen_81 : decode cX5_loosen 81 = .ok (.iload_n 2, 1) := by decide +kernel
theorem dX5_loosen_82 : decode cX5_loosen 82 = .ok (.iaload, 1) := by decide +kernel
theorem dX5_loosen_83 : decode cX5_loosen 83 = .ok (.ifCond .ne 8, 3) := by decide +kernel
theorem dX5_loosen_86 : decode cX5_loosen 86 = .ok (.bipush 100, 2) := by decide +kernel
theorem dX5_loosen_88 : decode cX5_loosen 88 = .ok (.iload_n 2, 1) := by decide +kernel
theorem dX5_loosen_89 : decode cX5_loosen 89 = .ok (.iadd, 1) := by decide +kernel
theorem dX5_loosen_90 : decode cX5_loosen 90 = .ok (.istore_n 1, 1) := by decide +kernel
theorem dX5_loosen_91 : decode cX5_loosen 91 = .ok (.iload 5, 2) := by decide +kernel
theorem dX5_loosen_93 : decode cX5_loosen 93 = .ok (.ifCond .eq 29, 3) := by decide +kernel
theorem dX5_loosen_96 : decode cX5_loosen 96 = .ok (.aload_n 0, 1) := by decide +kernel
theorem dX5_loosen_97 : decode cX5_loosen 97 = .ok (.getfield 38, 3) := by decide +kernel
theorem dX5_loosen_100 : decode cX5_loosen 100 = .ok (.iload_n 2, 1) := by decide +kernel
theorem dX5_loosen_101 : decode cX5_loosen 101 = .ok (.iaload, 1) := by decide +kernel
theorem dX5_loosen_102 : decode cX5_loosen 102 = .ok (.iconst 2, 1) := by decide +kernel
theorem dX5_loosen_103 : decode cX5_loosen 103 = .ok (.if_icmp .ne 19, 3) := by decide +kernel
theorem dX5_loosen_106 : decode cX5_loosen 106 = .ok (.aload_n 0, 1) := by decide +kernel
theorem dX5_loosen_107 : decode cX5_loosen 107 = .ok (.getfield 16, 3) := by decide +kernel
theorem dX5_loosen_110 : decode cX5_loosen 110 = .ok (.iconst 4, 1) := by decide +kernel
theorem dX5_loosen_111 : decode cX5_loosen 111 = .ok (.iload_n 3, 1) := by decide +kernel
theorem dX5_loosen_112 : decode cX5_loosen 112 = .ok (.imul, 1) := by decide +kernel
theorem dX5_loosen_113 : decode cX5_loosen 113 = .ok (.aload_n 0, 1) := by decide +kernel
theorem dX5_loosen_114 : decode cX5_loosen 114 = .ok (.getfield 32, 3) := by decide +kernel
theorem dX5_loosen_117 : decode cX5_loosen 117 = .ok (.iload_n 2, 1) := by decide +kernel
theorem dX5_loosen_118 : decode cX5_loosen 118 = .ok (.iaload, 1) := by decide +kernel
theorem dX5_loosen_119 : decode cX5_loosen 119 = .ok (.iadd, 1) := by decide +kernel
theorem dX5_loosen_120 : decode cX5_loosen 120 = .ok (.iconst 0, 1) := by decide +kernel
theorem dX5_loosen_121 : decode cX5_loosen 121 = .ok (.iastore, 1) := by decide +kernel
theorem dX5_loosen_122 : decode cX5_loosen 122 = .ok (.iinc 4 1, 3) := by decide +kernel
theorem dX5_loosen_125 : decode cX5_loosen 125 = .ok (.goto (-99), 3) := by decide +kernel
theorem dX5_loosen_128 : decode cX5_loosen 128 = .ok (.iinc 3 1, 3) := by decide +kernel
theorem dX5_loosen_131 : decode cX5_loosen 131 = .ok (.goto (-116), 3) := by decide +kernel
theorem dX5_loosen_134 : decode cX5_loosen 134 = .ok (.iinc 2 (-1), 3) := by decide +kernel
theorem dX5_loosen_137 : decode cX5_loosen 137 = .ok (.goto (-128), 3) := by decide +kernel
theorem dX5_loosen_140 : decode cX5_loosen 140 = .ok (.iload_n 1, 1) := by decide +kernel
theorem dX5_loosen_141 : decode cX5_loosen 141 = .ok (.ireturn, 1) := by decide +kernel
set_option maxRecDepth 20000 in
theorem ggX5_delete_X5_isColumn : GoodIn wsX5_delete wsX5_isColumn := goodIn_r _ [11, 12, 13, 14, 15, 10, 16, 17, 86, 87, 88, 89, 90, 91, 92, 93, 94, 95, 96, 97, 98, 99, 100, 101, 102, 103, 104, 105, 106, 107, 108, 109, 110, 111, 112, 113, 114, 115, 116] (by decide +kernel) (by decide +kernel)
set_option maxRecDepth 20000 in
theorem gX5_delete_X5_isColumn : GoodIn wsX5_delete (wsV RX5 118 RX5 yX5_isColumn wsX5_isColumn) := goodIn_app (goodIn_of _ (by decide +kernel)) ggX5_delete_X5_isColumn
set_option maxRecDepth 20000 in
theorem ggX5_delete_X5_remember : GoodIn wsX5_delete wsX5_remember := goodIn_r _ [21, 2, 6, 22, 4, 3, 23, 5, 86, 87, 88, 89, 90, 91, 92, 93, 94, 95, 96, 97, 98, 99, 100, 101, 102, 103, 104, 105, 106, 107, 108, 109, 110, 111, 112, 113, 114, 115, 116] (by decide +kernel) (by decide +kernel)
set_option maxRecDepth 20000 in
theorem gX5_delete_X5_remember : GoodIn wsX5_delete (wsV RX5 140 RX5 yX5_remember wsX5_remember) := goodIn_app (goodIn_of _ (by decide +kernel)) ggX5_delete_X5_remember
set_option maxRecDepth 20000 in
theorem ggX5_delete_X5_spread : GoodIn wsX5_delete wsX5_spread := goodIn_r _ [27, 28, 2, 29, 3, 30, 31, 32, 10, 33, 23, 34, 22, 35, 36, 86, 87, 88, 89, 90, 91, 92, 93, 94, 95, 96, 97, 98, 99, 100, 101, 102, 103, 104, 105, 106, 107, 108, 109, 110, 111, 112, 113, 114, 115, 116] (by decide +kernel) (by decide +kernel)
set_option maxRecDepth 20000 in
theorem gX5_delete_X5_spread : GoodIn wsX5_delete (wsV RX5 150 RX5 yX5_spread wsX5_spread) := goodIn_app (goodIn_of _ (by decide +kernel)) ggX5_delete_X5_spread
set_option maxRecDepth 20000 in
theorem ggX5_delete_X5_loosen : GoodIn wsX5_delete wsX5_loosen := goodIn_r _ [40, 28, 2, 3, 29, 5, 34, 30, 31, 32, 10, 33, 23, 22, 35, 36, 86, 87, 88, 89, 90, 91, 92, 93, 94, 95, 96, 97, 98, 99, 100, 101, 102, 103, 104, 105, 106, 107, 108, 109, 110, 111, 112, 113, 114, 115, 116] (by decide +kernel) (by decide +kernel)
set_option maxRecDepth 20000 in
theorem gX5_delete_X5_loosen : GoodIn wsX5_delete (wsV RX5 153 RX5 yX5_loosen wsX5_loosen) := goodIn_app (goodIn_of _ (by decide +kernel)) ggX5_delete_X5_loosen
set_option maxRecDepth 20000 in
theorem ggX5_delete_X5_settle : GoodIn wsX5_delete wsX5_settle := goodIn_r _ [44, 45, 46, 47, 48, 10, 49, 17, 50, 51, 52, 28, 53, 54, 55, 56, 57, 2, 4, 5, 58, 59, 60, 61, 34, 35, 36, 62, 63, 64, 65, 66, 67, 68, 69, 70, 71, 72, 73, 74, 75, 76, 77, 78, 79, 80, 81, 82, 83, 84, 85, 6, 22, 23, 86, 87, 88, 89, 90, 91, 92, 93, 94, 95, 96, 97, 98, 99, 100, 101, 102, 103, 104, 105, 106, 107, 108, 109, 110, 111, 112, 113, 114, 115, 116] (by decide +kernel) (by decide +kernel)
set_option maxRecDepth 20000 in
theorem gX5_delete_X5_settle : GoodIn wsX5_delete (wsV RX5 143 RX5 yX5_settle wsX5_settle) := goodIn_app (goodIn_of _ (by decide +kernel)) ggX5_delete_X5_settle
theorem dX5_delete_0 : decode cX5_delete 0 = .ok (.aload_n 0, 1) := by decide +kernel
theorem dX5_delete_1 : decode cX5_delete 1 = .ok (.aload_n 0, 1) := by decide +kernel
theorem dX5_delete_2 : decode cX5_delete 2 = .ok (.iload_n 1, 1) := by decide +kernel
theorem dX5_delete_3 : decode cX5_delete 3 = .ok (.iload_n 2, 1) := by decide +kernel
theorem dX5_delete_4 : decode cX5_delete 4 = .ok (.invokevirtual 118, 3) := by decide +kernel
theorem dX5_delete_7 : decode cX5_delete 7 = .ok (.ifCond .eq 7, 3) := by decide +kernel
theorem dX5_delete_10 : decode cX5_delete 10 = .ok (.iconst 0, 1) := by decide +kernel
theorem dX5_delete_11 : decode cX5_delete 11 = .ok (.goto 4, 3) := by decide +kernel
theorem dX5_delete_14 : decode cX5_delete 14 = .ok (.iconst 1, 1) := by decide +kernel
theorem dX5_delete_15 : decode cX5_delete 15 = .ok (.putfield 71, 3) := by decide +kernel
theorem dX5_delete_18 : decode cX5_delete 18 = .ok (.aload_n 0, 1) := by decide +kernel
theorem dX5_delete_19 : decode cX5_delete 19 = .ok (.getfield 71, 3) := by decide +kernel
theorem dX5_delete_22 : decode cX5_delete 22 = .ok (.ifCond .le 5, 3) := by decide +kernel
theorem dX5_delete_25 : decode cX5_delete 25 = .ok (.iconst 0, 1) := by decide +kernel
theorem dX5_delete_26 : decode cX5_delete 26 = .ok (.ireturn, 1) := by decide +kernel
theorem dX5_delete_27 : decode cX5_delete 27 = .ok (.aload_n 0, 1) := by decide +kernel
theorem dX5_delete_28 : decode cX5_delete 28 = .ok (.invokevirtual 140, 3) := by decide +kernel
theorem dX5_delete_31 : decode cX5_delete 31 = .ok (.iconst 0, 1) := by decide +kernel
theorem dX5_delete_32 : decode cX5_delete 32 = .ok (.istore 4, 2) := by decide +kernel
theorem dX5_delete_34 : decode cX5_delete 34 = .ok (.iload 4, 2) := by decide +kernel
theorem dX5_delete_36 : decode cX5_delete 36 = .ok (.aload_n 0, 1) := by decide +kernel
theorem dX5_delete_37 : decode cX5_delete 37 = .ok (.getfield 82, 3) := by decide +kernel
theorem dX5_delete_40 : decode cX5_delete 40 = .ok (.if_icmp .ge 47, 3) := by decide +kernel
theorem dX5_delete_43 : decode cX5_delete 43 = .ok (.aload_n 0, 1) := by decide +kernel
theorem dX5_delete_44 : decode cX5_delete 44 = .ok (.getfield 25, 3) := by decide +kernel
theorem dX5_delete_47 : decode cX5_delete 47 = .ok (.iload 4, 2) := by decide +kernel
theorem dX5_delete_49 : decode cX5_delete 49 = .ok (.aload_n 0, 1) := by decide +kernel
theorem dX5_delete_50 : decode cX5_delete 50 = .ok (.getfield 13, 3) := by decide +kernel
theorem dX5_delete_53 : decode cX5_delete 53 = .ok (.iload 4, 2) := by decide +kernel
theorem dX5_delete_55 : decode cX5_delete 55 = .ok (.iaload, 1) := by decide +kernel
theorem dX5_delete_56 : decode cX5_delete 56 = .ok (.iload_n 1, 1) := by decide +kernel
theorem dX5_delete_57 : decode cX5_delete 57 = .ok (.if_icmp .ne 22, 3) := by decide +kernel
theorem dX5_delete_60 : decode cX5_delete 60 = .ok (.aload_n 0, 1) := by decide +kernel
theorem dX5_delete_61 : decode cX5_delete 61 = .ok (.getfield 16, 3) := by decide +kernel
theorem dX5_delete_64 : decode cX5_delete 64 = .ok (.iconst 4, 1) := by decide +kernel
theorem dX5_delete_65 : decode cX5_delete 65 = .ok (.iload 4, 2) := by decide +kernel
theorem dX5_delete_67 : decode cX5_delete 67 = .ok (.imul, 1) := by decide +kernel
theorem dX5_delete_68 : decode cX5_delete 68 = .ok (.iload_n 2, 1) := by decide +kernel
theorem dX5_delete_69 : decode cX5_delete 69 = .ok (.iadd, 1) := by decide +kernel
theorem dX5_delete_70 : decode cX5_delete 70 = .ok (.iaload, 1) := by decide +kernel
theorem dX5_delete_71 : decode cX5_delete 71 = .ok (.iload_n 3, 1) := by decide +kernel
theorem dX5_delete_72 : decode cX5_delete 72 = .ok (.if_icmp .ne 7, 3) := by decide +kernel
theorem dX5_delete_75 : decode cX5_delete 75 = .ok (.iconst 1, 1) := by decide +kernel
theorem dX5_delete_76 : decode cX5_delete 76 = .ok (.goto 4, 3) := by decide +kernel
theorem dX5_delete_79 : decode cX5_delete 79 = .ok (.iconst 0, 1) := by decide +kernel
theorem dX5_delete_80 : decode cX5_delete 80 = .ok (.bastore, 1) := by decide +kernel
theorem dX5_delete_81 : decode cX5_delete 81 = .ok (.iinc 4 1, 3) := by decide +kernel
theorem dX5_delete_84 : decode cX5_delete 84 = .ok (.goto (-50), 3) := by decide +kernel
theorem dX5_delete_87 : decode cX5_delete 87 = .ok (.aload_n 0, 1) := by decide +kernel
theorem dX5_delete_88 : decode cX5_delete 88 = .ok (.invokevirtual 150, 3) := by decide +kernel
theorem dX5_delete_91 : decode cX5_delete 91 = .ok (.aload_n 0, 1) := by decide +kernel
theorem dX5_delete_92 : decode cX5_delete 92 = .ok (.invokevirtual 153, 3) := by decide +kernel
theorem dX5_delete_95 : decode cX5_delete 95 = .ok (.istore 4, 2) := by decide +kernel
theorem dX5_delete_97 : decode cX5_delete 97 = .ok (.iconst 0, 1) := by decide +kernel
theorem dX5_delete_98 : decode cX5_delete 98 = .ok (.istore 5, 2) := by decide +kernel
theorem dX5_delete_100 : decode cX5_delete 100 = .ok (.iconst 0, 1) := by decide +kernel
theorem dX5_delete_101 : decode cX5_delete 101 = .ok (.istore 6, 2) := by decide +kernel
theorem dX5_delete_103 : decode cX5_delete 103 = .ok (.iload 6, 2) := by decide +kernel
theorem dX5_delete_105 : decode cX5_delete 105 = .ok (.aload_n 0, 1) := by decide +kernel
theorem dX5_delete_106 : decode cX5_delete 106 = .ok (.getfield 130, 3) := by decide +kernel
theorem dX5_delete_109 : decode cX5_delete 109 = .ok (.if_icmp .ge 75, 3) := by decide +kernel
theorem dX5_delete_112 : decode cX5_delete 112 = .ok (.aload_n 0, 1) := by decide +kernel
theorem dX5_delete_113 : decode cX5_delete 113 = .ok (.getfield 25, 3) := by decide +kernel
theorem dX5_delete_116 : decode cX5_delete 116 = .ok (.iload 6, 2) := by decide +kernel
theorem dX5_delete_118 : decode cX5_delete 118 = .ok (.baload, 1) := by decide +kernel
theorem dX5_delete_119 : decode cX5_delete 119 = .ok (.ifCond .ne 59, 3) := by decide +kernel
theorem dX5_delete_122 : decode cX5_delete 122 = .ok (.aload_n 0, 1) := by decide +kernel
theorem dX5_delete_123 : decode cX5_delete 123 = .ok (.getfield 13, 3) := by decide +kernel
theorem dX5_delete_126 : decode cX5_delete 126 = .ok (.iload 5, 2) := by decide +kernel
theorem dX5_delete_128 : decode cX5_delete 128 = .ok (.aload_n 0, 1) := by decide +kernel
theorem dX5_delete_129 : decode cX5_delete 129 = .ok (.getfield 13, 3) := by decide +kernel
theorem dX5_delete_132 : decode cX5_delete 132 = .ok (.iload 6, 2) := by decide +kernel
theorem dX5_delete_134 : decode cX5_delete 134 = .ok (.iaload, 1) := by decide +kernel
theorem dX5_delete_135 : decode cX5_delete 135 = .ok (.iastore, 1) := by decide +kernel
theorem dX5_delete_136 : decode cX5_delete 136 = .ok (.iconst 0, 1) := by decide +kernel
theorem dX5_delete_137 : decode cX5_delete 137 = .ok (.istore 7, 2) := by decide +kernel
theorem dX5_delete_139 : decode cX5_delete 139 = .ok (.iload 7, 2) := by decide +kernel
theorem dX5_delete_141 : decode cX5_delete 141 = .ok (.iconst 4, 1) := by decide +kernel
theorem dX5_delete_142 : decode cX5_delete 142 = .ok (.if_icmp .ge 33, 3) := by decide +kernel
theorem dX5_delete_145 : decode cX5_delete 145 = .ok (.aload_n 0, 1) := by decide +kernel
theorem dX5_delete_146 : decode cX5_delete 146 = .ok (.getfield 16, 3) := by decide +kernel
theorem dX5_delete_149 : decode cX5_delete 149 = .ok (.iconst 4, 1) := by decide +kernel
theorem dX5_delete_150 : decode cX5_delete 150 = .ok (.iload 5, 2) := by decide +kernel
theorem dX5_delete_152 : decode cX5_delete 152 = .ok (.imul, 1) := by decide +kernel
theorem dX5_delete_153 : decode cX5_delete 153 = .ok (.iload 7, 2) := by decide +kernel
theorem dX5_delete_155 : decode cX5_delete 155 = .ok (.iadd, 1) := by decide +kernel
theorem dX5_delete_156 : decode cX5_delete 156 = .ok (.aload_n 0, 1) := by decide +kernel
theorem dX5_delete_157 : decode cX5_delete 157 = .ok (.getfield 16, 3) := by decide +kernel
theorem dX5_delete_160 : decode cX5_delete 160 = .ok (.iconst 4, 1) := by decide +kernel
theorem dX5_delete_161 : decode cX5_delete 161 = .ok (.iload 6, 2) := by decide +kernel
theorem dX5_delete_163 : decode cX5_delete 163 = .ok (.imul, 1) := by decide +kernel
theorem dX5_delete_164 : decode cX5_delete 164 = .ok (.iload 7, 2) := by decide +kernel
theorem dX5_delete_166 : decode cX5_delete 166 = .ok (.iadd, 1) := by decide +kernel
theorem dX5_delete_167 : decode cX5_delete 167 = .ok (.iaload, 1) := by decide +kernel
theorem dX5_delete_168 : decode cX5_delete 168 = .ok (.iastore, 1) := by decide +kernel
theorem dX5_delete_169 : decode cX5_delete 169 = .ok (.iinc 7 1, 3) := by decide +kernel
theorem dX5_delete_172 : decode cX5_delete 172 = .ok (.goto (-33), 3) := by decide +kernel
theorem dX5_delete_175 : decode cX5_delete 175 = .ok (.iinc 5 1, 3) := by decide +kernel
theorem dX5_delete_178 : decode cX5_delete 178 = .ok (.iinc 6 1, 3) := by decide +kernel
theorem dX5_delete_181 : decode cX5_delete 181 = .ok (.goto (-78), 3) := by decide +kernel
theorem dX5_delete_184 : decode cX5_delete 184 = .ok (.aload_n 0, 1) := by decide +kernel
theorem dX5_delete_185 : decode cX5_delete 185 = .ok (.iload 5, 2) := by decide +kernel
theorem dX5_delete_187 : decode cX5_delete 187 = .ok (.putfield 82, 3) := by decide +kernel
theorem dX5_delete_190 : decode cX5_delete 190 = .ok (.aload_n 0, 1) := by decide +kernel
theorem dX5_delete_191 : decode cX5_delete 191 = .ok (.aload_n 0, 1) := by decide +kernel
theorem dX5_delete_192 : decode cX5_delete 192 = .ok (.iload 4, 2) := by decide +kernel
theorem dX5_delete_194 : decode cX5_delete 194 = .ok (.iconst 2, 1) := by decide +kernel
theorem dX5_delete_195 : decode cX5_delete 195 = .ok (.invokevirtual 143, 3) := by decide +kernel
theorem dX5_delete_198 : decode cX5_delete 198 = .ok (.putfield 71, 3) := by decide +kernel
theorem dX5_delete_201 : decode cX5_delete 201 = .ok (.aload_n 0, 1) := by decide +kernel
theorem dX5_delete_202 : decode cX5_delete 202 = .ok (.getfield 71, 3) := by decide +kernel
theorem dX5_delete_205 : decode cX5_delete 205 = .ok (.ifCond .le 7, 3) := by decide +kernel
theorem dX5_delete_208 : decode cX5_delete 208 = .ok (.iconst 0, 1) := by decide +kernel
theorem dX5_delete_209 : decode cX5_delete 209 = .ok (.goto 10, 3) := by decide +kernel
theorem dX5_delete_212 : decode cX5_delete 212 = .ok (.aload_n 0, 1) := by decide +kernel
theorem dX5_delete_213 : decode cX5_delete 213 = .ok (.getfield 130, 3) := by decide +kernel
theorem dX5_delete_216 : decode cX5_delete 216 = .ok (.iload 5, 2) := by decide +kernel
theorem dX5_delete_218 : decode cX5_delete 218 = .ok (.isub, 1) := by decide +kernel
theorem dX5_delete_219 : decode cX5_delete 219 = .ok (.ireturn, 1) := by decide +kernel
set_option maxRecDepth 20000 in
theorem ggX5_rename_X5_referred : GoodIn wsX5_rename wsX5_referred := goodIn_r _ [10, 11, 5, 12, 13, 14, 15, 16, 17, 18, 19, 20, 21, 22, 23, 24, 25, 26, 27, 28, 29, 30, 31, 32, 33, 34, 35, 36, 37, 38, 39, 40, 41, 42, 43, 44, 45] (by decide +kernel) (by decide +kernel)
set_option maxRecDepth 20000 in
theorem gX5_rename_X5_referred : GoodIn wsX5_rename (wsV RX5 146 RX5 yX5_referred wsX5_referred) := goodIn_app (goodIn_of _ (by decide +kernel)) ggX5_rename_X5_referred
theorem dX5_rename_0 : decode cX5_rename 0 = .ok (.iconst 0, 1) := by decide +kernel
theorem dX5_rename_1 : decode cX5_rename 1 = .ok (.istore_n 3, 1) := by decide +kernel
theorem dX5_rename_2 : decode cX5_rename 2 = .ok (.aload_n 0, 1) := by decide +kernel
theorem dX5_rename_3 : decode cX5_rename 3 = .ok (.getfield 16, 3) := by decide +kernel
theorem dX5_rename_6 : decode cX5_rename 6 = .ok (.iconst 4, 1) := by decide +kernel
theorem dX5_rename_7 : decode cX5_rename 7 = .ok (.iload_n 1, 1) := by decide +kernel
theorem dX5_rename_8 : decode cX5_rename 8 = .ok (.imul, 1) := by decide +kernel
theorem dX5_rename_9 : decode cX5_rename 9 = .ok (.iload_n 2, 1) := by decide +kernel
theorem dX5_rename_10 : decode cX5_rename 10 = .ok (.iastore, 1) := by decide +kernel
theorem dX5_rename_11 : decode cX5_rename 11 = .ok (.aload_n 0, 1) := by decide +kernel
theorem dX5_rename_12 : decode cX5_rename 12 = .ok (.getfield 106, 3) := by decide +kernel
theorem dX5_rename_15 : decode cX5_rename 15 = .ok (.iconst 1, 1) := by decide +kernel
theorem dX5_rename_16 : decode cX5_rename 16 = .ok (.isub, 1) := by decide +kernel
theorem dX5_rename_17 : decode cX5_rename 17 = .ok (.istore 4, 2) := by decide +kernel
theorem dX5_rename_19 : decode cX5_rename 19 = .ok (.iload 4, 2) := by decide +kernel
theorem dX5_rename_21 : decode cX5_rename 21 = .ok (.ifCond .lt 117, 3) := by decide +kernel
theorem dX5_rename_24 : decode cX5_rename 24 = .ok (.iconst 0, 1) := by decide +kernel
theorem dX5_rename_25 : decode cX5_rename 25 = .ok (.istore 5, 2) := by decide +kernel
theorem dX5_rename_27 : decode cX5_rename 27 = .ok (.iload 5, 2) := by decide +kernel
theorem dX5_rename_29 : decode cX5_rename 29 = .ok (.aload_n 0, 1) := by decide +kernel
theorem dX5_rename_30 : decode cX5_rename 30 = .ok (.getfield 82, 3) := by decide +kernel
theorem dX5_rename_33 : decode cX5_rename 33 = .ok (.if_icmp .ge 99, 3) := by decide +kernel
theorem dX5_rename_36 : decode cX5_rename 36 = .ok (.aload_n 0, 1) := by decide +kernel
theorem dX5_rename_37 : decode cX5_rename 37 = .ok (.iload 4, 2) := by decide +kernel
theorem dX5_rename_39 : decode cX5_rename 39 = .ok (.iload 5, 2) := by decide +kernel
theorem dX5_rename_41 : decode cX5_rename 41 = .ok (.iload_n 1, 1) := by decide +kernel
theorem dX5_rename_42 : decode cX5_rename 42 = .ok (.invokevirtual 146, 3) := by decide +kernel
theorem dX5_rename_45 : decode cX5_rename 45 = .ok (.ifCond .eq 81, 3) := by decide +kernel
theorem dX5_rename_48 : decode cX5_rename 48 = .ok (.aload_n 0, 1) := by decide +kernel
theorem dX5_rename_49 : decode cX5_rename 49 = .ok (.getfield 38, 3) := by decide +kernel
theorem dX5_rename_52 : decode cX5_rename 52 = .ok (.iload 4, 2) := by decide +kernel
theorem dX5_rename_54 : decode cX5_rename 54 = .ok (.iaload, 1) := by decide +kernel
theorem dX5_rename_55 : decode cX5_rename 55 = .ok (.ifCond .ne 11, 3) := by decide +kernel
theorem dX5_rename_58 : decode cX5_rename 58 = .ok (.bipush 100, 2) := by decide +kernel
theorem dX5_rename_60 : decode cX5_rename 60 = .ok (.iload 4, 2) := by decide +kernel
theorem dX5_rename_62 : decode cX5_rename 62 = .ok (.iadd, 1) := by decide +kernel
theorem dX5_rename_63 : decode cX5_rename 63 = .ok (.goto 4, 3) := by decide +kernel
theorem dX5_rename_66 : decode cX5_rename 66 = .ok (.iload_n 3, 1) := by decide +kernel
theorem dX5_rename_67 : decode cX5_rename 67 = .ok (.istore_n 3, 1) := by decide +kernel
theorem dX5_rename_68 : decode cX5_rename 68 = .ok (.iconst 4, 1) := by decide +kernel
theorem dX5_rename_69 : decode cX5_rename 69 = .ok (.iload 5, 2) := by decide +kernel
theorem dX5_rename_71 : decode cX5_rename 71 = .ok (.imul, 1) := by decide +kernel
theorem dX5_rename_72 : decode cX5_rename 72 = .ok (.aload_n 0, 1) := by decide +kernel
theorem dX5_rename_73 : decode cX5_rename 73 = .ok (.getfield 32, 3) := by decide +kernel
theorem dX5_rename_76 : decode cX5_rename 76 = .ok (.iload 4, 2) := by decide +kernel
theorem dX5_rename_78 : decode cX5_rename 78 = .ok (.iaload, 1) := by decide +kernel
theorem dX5_rename_79 : decode cX5_rename 79 = .ok (.iadd, 1) := by decide +kernel
theorem dX5_rename_80 : decode cX5_rename 80 = .ok (.istore 6, 2) := by decide +kernel
theorem dX5_rename_82 : decode cX5_rename 82 = .ok (.aload_n 0, 1) := by decide +kernel
theorem dX5_rename_83 : decode cX5_rename 83 = .ok (.getfield 16, 3) := by decide +kernel
theorem dX5_rename_86 : decode cX5_rename 86 = .ok (.iload 6, 2) := by decide +kernel
theorem dX5_rename_88 : decode cX5_rename 88 = .ok (.aload_n 0, 1) := by decide +kernel
theorem dX5_rename_89 : decode cX5_rename 89 = .ok (.getfield 38, 3) := by decide +kernel
theorem dX5_rename_92 : decode cX5_rename 92 = .ok (.iload 4, 2) := by decide +kernel
theorem dX5_rename_94 : decode cX5_rename 94 = .ok (.iaload, 1) := by decide +kernel
theorem dX5_rename_95 : decode cX5_rename 95 = .ok (.iconst 1, 1) := by decide +kernel
theorem dX5_rename_96 : decode cX5_rename 96 = .ok (.if_icmp .ne 7, 3) := by decide +kernel
theorem dX5_rename_99 : decode cX5_rename 99 = .ok (.iload_n 2, 1) := by decide +kernel
theorem dX5_rename_100 : decode cX5_rename 100 = .ok (.goto 25, 3) := by decide +kernel
theorem dX5_rename_103 : decode cX5_rename 103 = .ok (.aload_n 0, 1) := by decide +kernel
theorem dX5_rename_104 : decode cX5_rename 104 = .ok (.getfield 38, 3) := by decide +kernel
theorem dX5_rename_107 : decode cX5_rename 107 = .ok (.iload 4, 2) := by decide +kernel
theorem dX5_rename_109 : decode cX5_rename 109 = .ok (.iaload, 1) := by decide +kernel
theorem dX5_rename_110 : decode cX5_rename 110 = .ok (.iconst 2, 1) := by decide +kernel
theorem dX5_rename_111 : decode cX5_rename 111 = .ok (.if_icmp .ne 7, 3) := by decide +kernel
theorem dX5_rename_114 : decode cX5_rename 114 = .ok (.iconst 0, 1) := by decide +kernel
theorem dX5_rename_115 : decode cX5_rename 115 = .ok (.goto 10, 3) := by decide +kernel
theorem dX5_rename_118 : decode cX5_rename 118 = .ok (.aload_n 0, 1) := by decide +kernel
theorem dX5_rename_119 : decode cX5_rename 119 = .ok (.getfield 16, 3) := by decide +kernel
theorem dX5_rename_122 : decode cX5_rename 122 = .ok (.iload 6, 2) := by decide +kernel
theorem dX5_rename_124 : decode cX5_rename 124 = .ok (.iaload, 1) := by decide +kernel
theorem dX5_rename_125 : decode cX5_rename 125 = .ok (.iastore, 1) := by decide +kernel
theorem dX5_rename_126 : decode cX5_rename 126 = .ok (.iinc 5 1, 3) := by decide +kernel
theorem dX5_rename_129 : decode cX5_rename 129 = .ok (.goto (-102), 3) := by decide +kernel
theorem dX5_rename_132 : decode cX5_rename 132 = .ok (.iinc 4 (-1), 3) := by decide +kernel
theorem dX5_rename_135 : decode cX5_rename 135 = .ok (.goto (-116), 3) := by decide +kernel
theorem dX5_rename_138 : decode cX5_rename 138 = .ok (.iload_n 3, 1) := by decide +kernel
theorem dX5_rename_139 : decode cX5_rename 139 = .ok (.ireturn, 1) := by decide +kernel
set_option maxRecDepth 20000 in
theorem ggX5_update_X5_isColumn : GoodIn wsX5_update wsX5_isColumn := goodIn_r _ [7, 8, 9, 10, 11, 6, 12, 13, 82, 83, 84, 85, 86, 87, 88, 89, 90, 91, 92, 93, 94, 95, 96, 97, 98, 99, 100, 101, 102, 103, 104, 105, 106, 107, 108, 109, 110, 111, 112] (by decide +kernel) (by decide +kernel)
set_option maxRecDepth 20000 in
theorem gX5_update_X5_isColumn : GoodIn wsX5_update (wsV RX5 118 RX5 yX5_isColumn wsX5_isColumn) := goodIn_app (goodIn_of _ (by decide +kernel)) ggX5_update_X5_isColumn
set_option maxRecDepth 20000 in
theorem ggX5_update_X5_find : GoodIn wsX5_update wsX5_find := goodIn_r _ [17, 18, 19, 2, 82, 83, 84, 85, 86, 87, 88, 89, 90, 91, 92, 93, 94, 95, 96, 97, 98, 99, 100, 101, 102, 103, 104, 105, 106, 107, 108, 109, 110, 111, 112] (by decide +kernel) (by decide +kernel)
set_option maxRecDepth 20000 in
theorem gX5_update_X5_find : GoodIn wsX5_update (wsV RX5 85 RX5 yX5_find wsX5_find) := goodIn_app (goodIn_of _ (by decide +kernel)) ggX5_update_X5_find
set_option maxRecDepth 20000 in
theorem ggX5_update_X5_remember : GoodIn wsX5_update wsX5_remember := goodIn_r _ [23, 18, 24, 25, 19, 26, 27, 2, 82, 83, 84, 85, 86, 87, 88, 89, 90, 91, 92, 93, 94, 95, 96, 97, 98, 99, 100, 101, 102, 103, 104, 105, 106, 107, 108, 109, 110, 111, 112] (by decide +kernel) (by decide +kernel)
set_option maxRecDepth 20000 in
theorem gX5_update_X5_remember : GoodIn wsX5_update (wsV RX5 140 RX5 yX5_remember wsX5_remember) := goodIn_app (goodIn_of _ (by decide +kernel)) ggX5_update_X5_remember
set_option maxRecDepth 20000 in
theorem ggX5_update_X5_rename : GoodIn wsX5_update wsX5_rename := goodIn_r _ [31, 2, 32, 18, 33, 34, 35, 36, 37, 6, 38, 27, 25, 39, 40, 82, 83, 84, 85, 86, 87, 88, 89, 90, 91, 92, 93, 94, 95, 96, 97, 98, 99, 100, 101, 102, 103, 104, 105, 106, 107, 108, 109, 110, 111, 112] (by decide +kernel) (by decide +kernel)
set_option maxRecDepth 20000 in
theorem gX5_update_X5_rename : GoodIn wsX5_update (wsV RX5 156 RX5 yX5_rename wsX5_rename) := goodIn_app (goodIn_of _ (by decide +kernel)) ggX5_update_X5_rename
set_option maxRecDepth 20000 in
theorem ggX5_update_X5_settle : GoodIn wsX5_update wsX5_settle := goodIn_r _ [44, 45, 46, 47, 48, 6, 49, 13, 50, 51, 52, 32, 53, 54, 55, 56, 57, 18, 19, 2, 58, 59, 60, 61, 34, 39, 40, 14, 15, 16, 17, 62, 63, 64, 65, 66, 67, 68, 69, 70, 71, 72, 73, 74, 75, 76, 77, 78, 79, 80, 81, 24, 25, 27, 82, 83, 84, 85, 86, 87, 88, 89, 90, 91, 92, 93, 94, 95, 96, 97, 98, 99, 100, 101, 102, 103, 104, 105, 106, 107, 108, 109, 110, 111, 112] (by decide +kernel) (by decide +kernel)
set_option maxRecDepth 20000 in
theorem gX5_update_X5_settle : GoodIn wsX5_update (wsV RX5 143 RX5 yX5_settle wsX5_settle) := goodIn_app (goodIn_of _ (by decide +kernel)) ggX5_update_X5_settle
theorem dX5_update_0 : decode cX5_update 0 = .ok (.aload_n 0, 1) := by decide +kernel
theorem dX5_update_1 : decode cX5_update 1 = .ok (.aload_n 0, 1) := by decide +kernel
theorem dX5_update_2 : decode cX5_update 2 = .ok (.iload_n 1, 1) := by decide +kernel
theorem dX5_update_3 : decode cX5_update 3 = .ok (.iload_n 3, 1) := by decide +kernel
theorem dX5_update_4 : decode cX5_update 4 = .ok (.invokevirtual 118, 3) := by decide +kernel
theorem dX5_update_7 : decode cX5_update 7 = .ok (.ifCond .eq 12, 3) := by decide +kernel
theorem dX5_update_10 : decode cX5_update 10 = .ok (.iload_n 3, 1) := by decide +kernel
theorem dX5_update_11 : decode cX5_update 11 = .ok (.ifCond .ne 12, 3) := by decide +kernel
theorem dX5_update_14 : decode cX5_update 14 = .ok (.iload 4, 2) := by decide +kernel
theorem dX5_update_16 : decode cX5_update 16 = .ok (.ifCond .ne 7, 3) := by decide +kernel
theorem dX5_update_19 : decode cX5_update 19 = .ok (.iconst 1, 1) := by decide +kernel
theorem dX5_update_20 : decode cX5_update 20 = .ok (.goto 4, 3) := by decide +kernel
theorem dX5_update_23 : decode cX5_update 23 = .ok (.iconst 0, 1) := by decide +kernel
theorem dX5_update_24 : decode cX5_update 24 = .ok (.putfield 71, 3) := by decide +kernel
theorem dX5_update_27 : decode cX5_update 27 = .ok (.aload_n 0, 1) := by decide +kernel
theorem dX5_update_28 : decode cX5_update 28 = .ok (.getfield 71, 3) := by decide +kernel
theorem dX5_update_31 : decode cX5_update 31 = .ok (.ifCond .le 5, 3) := by decide +kernel
theorem dX5_update_34 : decode cX5_update 34 = .ok (.iconst 0, 1) := by decide +kernel
theorem dX5_update_35 : decode cX5_update 35 = .ok (.ireturn, 1) := by decide +kernel
theorem dX5_update_36 : decode cX5_update 36 = .ok (.aload_n 0, 1) := by decide +kernel
theorem dX5_update_37 : decode cX5_update 37 = .ok (.iload_n 1, 1) := by decide +kernel
theorem dX5_update_38 : decode cX5_update 38 = .ok (.iload_n 2, 1) := by decide +kernel
theorem dX5_update_39 : decode cX5_update 39 = .ok (.invokevirtual 85, 3) := by decide +kernel
theorem dX5_update_42 : decode cX5_update 42 = .ok (.istore 5, 2) := by decide +kernel
theorem dX5_update_44 : decode cX5_update 44 = .ok (.aload_n 0, 1) := by decide +kernel
theorem dX5_update_45 : decode cX5_update 45 = .ok (.iload 5, 2) := by decide +kernel
theorem dX5_update_47 : decode cX5_update 47 = .ok (.ifCond .lt 7, 3) := by decide +kernel
theorem dX5_update_50 : decode cX5_update 50 = .ok (.iload_n 2, 1) := by decide +kernel
theorem dX5_update_51 : decode cX5_update 51 = .ok (.ifCond .ne 7, 3) := by decide +kernel
theorem dX5_update_54 : decode cX5_update 54 = .ok (.iconst 2, 1) := by decide +kernel
theorem dX5_update_55 : decode cX5_update 55 = .ok (.goto 4, 3) := by decide +kernel
theorem dX5_update_58 : decode cX5_update 58 = .ok (.iconst 0, 1) := by decide +kernel
theorem dX5_update_59 : decode cX5_update 59 = .ok (.putfield 71, 3) := by decide +kernel
theorem dX5_update_62 : decode cX5_update 62 = .ok (.aload_n 0, 1) := by decide +kernel
theorem dX5_update_63 : decode cX5_update 63 = .ok (.getfield 71, 3) := by decide +kernel
theorem dX5_update_66 : decode cX5_update 66 = .ok (.ifCond .le 5, 3) := by decide +kernel
theorem dX5_update_69 : decode cX5_update 69 = .ok (.iconst 0, 1) := by decide +kernel
theorem dX5_update_70 : decode cX5_update 70 = .ok (.ireturn, 1) := by decide +kernel
theorem dX5_update_71 : decode cX5_update 71 = .ok (.aload_n 0, 1) := by decide +kernel
theorem dX5_update_72 : decode cX5_update 72 = .ok (.getfield 16, 3) := by decide +kernel
theorem dX5_update_75 : decode cX5_update 75 = .ok (.iconst 4, 1) := by decide +kernel
theorem dX5_update_76 : decode cX5_update 76 = .ok (.iload 5, 2) := by decide +kernel
theorem dX5_update_78 : decode cX5_update 78 = .ok (.imul, 1) := by decide +kernel
theorem dX5_update_79 : decode cX5_update 79 = .ok (.iload_n 3, 1) := by decide +kernel
theorem dX5_update_80 : decode cX5_update 80 = .ok (.iadd, 1) := by decide +kernel
theorem dX5_update_81 : decode cX5_update 81 = .ok (.iaload, 1) := by decide +kernel
theorem dX5_update_82 : decode cX5_update 82 = .ok (.istore 6, 2) := by decide +kernel
theorem dX5_update_84 : decode cX5_update 84 = .ok (.iload 6, 2) := by decide +kernel
theorem dX5_update_86 : decode cX5_update 86 = .ok (.iload 4, 2) := by decide +kernel
theorem dX5_update_88 : decode cX5_update 88 = .ok (.if_icmp .ne 6, 3) := by decide +kernel
theorem dX5_update_91 : decode cX5_update 91 = .ok (.iload 6, 2) := by decide +kernel
theorem dX5_update_93 : decode cX5_update 93 = .ok (.ireturn, 1) := by decide +kernel
theorem dX5_update_94 : decode cX5_update 94 = .ok (.aload_n 0, 1) := by decide +kernel
theorem dX5_update_95 : decode cX5_update 95 = .ok (.invokevirtual 140, 3) := by decide +kernel
theorem dX5_update_98 : decode cX5_update 98 = .ok (.iconst 0, 1) := by decide +kernel
theorem dX5_update_99 : decode cX5_update 99 = .ok (.istore 7, 2) := by decide +kernel
theorem dX5_update_101 : decode cX5_update 101 = .ok (.iload_n 3, 1) := by decide +kernel
theorem dX5_update_102 : decode cX5_update 102 = .ok (.ifCond .ne 16, 3) := by decide +kernel
theorem dX5_update_105 : decode cX5_update 105 = .ok (.aload_n 0, 1) := by decide +kernel
theorem dX5_update_106 : decode cX5_update 106 = .ok (.iload 5, 2) := by decide +kernel
theorem dX5_update_108 : decode cX5_update 108 = .ok (.iload 4, 2) := by decide +kernel
theorem dX5_update_110 : decode cX5_update 110 = .ok (.invokevirtual 156, 3) := by decide +kernel
theorem dX5_update_113 : decode cX5_update 113 = .ok (.istore 7, 2) := by decide +kernel
theorem dX5_update_115 : decode cX5_update 115 = .ok (.goto 16, 3) := by decide +kernel
theorem dX5_update_118 : decode cX5_update 118 = .ok (.aload_n 0, 1) := by decide +kernel
theorem dX5_update_119 : decode cX5_update 119 = .ok (.getfield 16, 3) := by decide +kernel
theorem dX5_update_122 : decode cX5_update 122 = .ok (.iconst 4, 1) := by decide +kernel
theorem dX5_update_123 : decode cX5_update 123 = .ok (.iload 5, 2) := by decide +kernel
theorem dX5_update_125 : decode cX5_update 125 = .ok (.imul, 1) := by decide +kernel
theorem dX5_update_126 : decode cX5_update 126 = .ok (.iload_n 3, 1) := by decide +kernel
theorem dX5_update_127 : decode cX5_update 127 = .ok (.iadd, 1) := by decide +kernel
theorem dX5_update_128 : decode cX5_update 128 = .ok (.iload 4, 2) := by decide +kernel
theorem dX5_update_130 : decode cX5_update 130 = .ok (.iastore, 1) := by decide +kernel
theorem dX5_update_131 : decode cX5_update 131 = .ok (.aload_n 0, 1) := by decide +kernel
theorem dX5_update_132 : decode cX5_update 132 = .ok (.aload_n 0, 1) := by decide +kernel
theorem dX5_update_133 : decode cX5_update 133 = .ok (.iload 7, 2) := by decide +kernel
theorem dX5_update_135 : decode cX5_update 135 = .ok (.iconst 3, 1) := by decide +kernel
theorem dX5_update_136 : decode cX5_update 136 = .ok (.invokevirtual 143, 3) := by decide +kernel
theorem dX5_update_139 : decode cX5_update 139 = .ok (.putfield 71, 3) := by decide +kernel
theorem dX5_update_142 : decode cX5_update 142 = .ok (.aload_n 0, 1) := by decide +kernel
theorem dX5_update_143 : decode cX5_update 143 = .ok (.getfield 71, 3) := by decide +kernel
theorem dX5_update_146 : decode cX5_update 146 = .ok (.ifCond .le 7, 3) := by decide +kernel
theorem dX5_update_149 : decode cX5_update 149 = .ok (.iconst 0, 1) := by decide +kernel
theorem dX5_update_150 : decode cX5_update 150 = .ok (.goto 5, 3) := by decide +kernel
theorem dX5_update_153 : decode cX5_update 153 = .ok (.iload 6, 2) := by decide +kernel
theorem dX5_update_155 : decode cX5_update 155 = .ok (.ireturn, 1) := by decide +kernel
set_option maxRecDepth 20000 in
theorem ggX5_shift_X5_isColumn : GoodIn wsX5_shift wsX5_isColumn := goodIn_r _ [9, 10, 11, 12, 13, 8, 14, 15, 73, 74, 75, 76, 77, 78, 79, 80, 81, 82, 83, 84, 85, 86, 87, 88, 89, 90, 91, 92, 93, 94, 95, 96, 97, 98, 99, 100, 101, 102, 103] (by decide +kernel) (by decide +kernel)
set_option maxRecDepth 20000 in
theorem gX5_shift_X5_isColumn : GoodIn wsX5_shift (wsV RX5 118 RX5 yX5_isColumn wsX5_isColumn) := goodIn_app (goodIn_of _ (by decide +kernel)) ggX5_shift_X5_isColumn
set_option maxRecDepth 20000 in
theorem ggX5_shift_X5_remember : GoodIn wsX5_shift wsX5_remember := goodIn_r _ [19, 2, 20, 21, 3, 22, 23, 4, 73, 74, 75, 76, 77, 78, 79, 80, 81, 82, 83, 84, 85, 86, 87, 88, 89, 90, 91, 92, 93, 94, 95, 96, 97, 98, 99, 100, 101, 102, 103] (by decide +kernel) (by decide +kernel)
set_option maxRecDepth 20000 in
theorem gX5_shift_X5_remember : GoodIn wsX5_shift (wsV RX5 140 RX5 yX5_remember wsX5_remember) := goodIn_app (goodIn_of _ (by decide +kernel)) ggX5_shift_X5_remember
set_option maxRecDepth 20000 in
theorem ggX5_shift_X5_settle : GoodIn wsX5_shift wsX5_settle := goodIn_r _ [27, 28, 29, 30, 31, 8, 32, 15, 33, 34, 35, 36, 37, 38, 39, 40, 41, 2, 3, 4, 42, 43, 44, 45, 46, 47, 48, 49, 50, 51, 52, 53, 54, 55, 56, 57, 58, 59, 60, 61, 62, 63, 64, 65, 66, 67, 68, 69, 70, 71, 72, 20, 21, 23, 73, 74, 75, 76, 77, 78, 79, 80, 81, 82, 83, 84, 85, 86, 87, 88, 89, 90, 91, 92, 93, 94, 95, 96, 97, 98, 99, 100, 101, 102, 103] (by decide +kernel) (by decide +kernel)
set_option maxRecDepth 20000 in
theorem gX5_shift_X5_settle : GoodIn wsX5_shift (wsV RX5 143 RX5 yX5_settle wsX5_settle) := goodIn_app (goodIn_of _ (by decide +kernel)) ggX5_shift_X5_settle
theorem dX5_shift_0 : decode cX5_shift 0 = .ok (.aload_n 0, 1) := by decide +kernel
theorem dX5_shift_1 : decode cX5_shift 1 = .ok (.aload_n 0, 1) := by decide +kernel
theorem dX5_shift_2 : decode cX5_shift 2 = .ok (.iload_n 1, 1) := by decide +kernel
theorem dX5_shift_3 : decode cX5_shift 3 = .ok (.iload_n 2, 1) := by decide +kernel
theorem dX5_shift_4 : decode cX5_shift 4 = .ok (.invokevirtual 118, 3) := by decide +kernel
theorem dX5_shift_7 : decode cX5_shift 7 = .ok (.ifCond .eq 11, 3) := by decide +kernel
theorem dX5_shift_10 : decode cX5_shift 10 = .ok (.iload_n 2, 1) := by decide +kernel
theorem dX5_shift_11 : decode cX5_shift 11 = .ok (.ifCond .le 7, 3) := by decide +kernel
theorem dX5_shift_14 : decode cX5_shift 14 = .ok (.iconst 0, 1) := by decide +kernel
theorem dX5_shift_15 : decode cX5_shift 15 = .ok (.goto 4, 3) := by decide +kernel
theorem dX5_shift_18 : decode cX5_shift 18 = .ok (.iconst 1, 1) := by decide +kernel
theorem dX5_shift_19 : decode cX5_shift 19 = .ok (.putfield 71, 3) := by decide +kernel
theorem dX5_shift_22 : decode cX5_shift 22 = .ok (.aload_n 0, 1) := by decide +kernel
theorem dX5_shift_23 : decode cX5_shift 23 = .ok (.getfield 71, 3) := by decide +kernel
theorem dX5_shift_26 : decode cX5_shift 26 = .ok (.ifCond .le 5, 3) := by decide +kernel
theorem dX5_shift_29 : decode cX5_shift 29 = .ok (.iconst 0, 1) := by decide +kernel
theorem dX5_shift_30 : decode cX5_shift 30 = .ok (.ireturn, 1) := by decide +kernel
theorem dX5_shift_31 : decode cX5_shift 31 = .ok (.aload_n 0, 1) := by decide +kernel
theorem dX5_shift_32 : decode cX5_shift 32 = .ok (.invokevirtual 140, 3) := by decide +kernel
theorem dX5_shift_35 : decode cX5_shift 35 = .ok (.iconst 0, 1) := by decide +kernel
theorem dX5_shift_36 : decode cX5_shift 36 = .ok (.istore 4, 2) := by decide +kernel
theorem dX5_shift_38 : decode cX5_shift 38 = .ok (.iconst 0, 1) := by decide +kernel
theorem dX5_shift_39 : decode cX5_shift 39 = .ok (.istore 5, 2) := by decide +kernel
theorem dX5_shift_41 : decode cX5_shift 41 = .ok (.iload 5, 2) := by decide +kernel
theorem dX5_shift_43 : decode cX5_shift 43 = .ok (.aload_n 0, 1) := by decide +kernel
theorem dX5_shift_44 : decode cX5_shift 44 = .ok (.getfield 82, 3) := by decide +kernel
theorem dX5_shift_47 : decode cX5_shift 47 = .ok (.if_icmp .ge 38, 3) := by decide +kernel
theorem dX5_shift_50 : decode cX5_shift 50 = .ok (.aload_n 0, 1) := by decide +kernel
theorem dX5_shift_51 : decode cX5_shift 51 = .ok (.getfield 13, 3) := by decide +kernel
theorem dX5_shift_54 : decode cX5_shift 54 = .ok (.iload 5, 2) := by decide +kernel
theorem dX5_shift_56 : decode cX5_shift 56 = .ok (.iaload, 1) := by decide +kernel
theorem dX5_shift_57 : decode cX5_shift 57 = .ok (.iload_n 1, 1) := by decide +kernel
theorem dX5_shift_58 : decode cX5_shift 58 = .ok (.if_icmp .ne 21, 3) := by decide +kernel
theorem dX5_shift_61 : decode cX5_shift 61 = .ok (.aload_n 0, 1) := by decide +kernel
theorem dX5_shift_62 : decode cX5_shift 62 = .ok (.getfield 16, 3) := by decide +kernel
theorem dX5_shift_65 : decode cX5_shift 65 = .ok (.iconst 4, 1) := by decide +kernel
theorem dX5_shift_66 : decode cX5_shift 66 = .ok (.iload 5, 2) := by decide +kernel
theorem dX5_shift_68 : decode cX5_shift 68 = .ok (.imul, 1) := by decide +kernel
theorem dX5_shift_69 : decode cX5_shift 69 = .ok (.iload_n 2, 1) := by decide +kernel
theorem dX5_shift_70 : decode cX5_shift 70 = .ok (.iadd, 1) := by decide +kernel
theorem dX5_shift_71 : decode cX5_shift 71 = .ok (.dup2, 1) := by decide +kernel
theorem dX5_shift_72 : decode cX5_shift 72 = .ok (.iaload, 1) := by decide +kernel
theorem dX5_shift_73 : decode cX5_shift 73 = .ok (.iload_n 3, 1) := by decide +kernel
theorem dX5_shift_74 : decode cX5_shift 74 = .ok (.iadd, 1) := by decide +kernel
theorem dX5_shift_75 : decode cX5_shift 75 = .ok (.iastore, 1) := by decide +kernel
theorem dX5_shift_76 : decode cX5_shift 76 = .ok (.iinc 4 1, 3) := by decide +kernel
theorem dX5_shift_79 : decode cX5_shift 79 = .ok (.iinc 5 1, 3) := by decide +kernel
theorem dX5_shift_82 : decode cX5_shift 82 = .ok (.goto (-41), 3) := by decide +kernel
theorem dX5_shift_85 : decode cX5_shift 85 = .ok (.aload_n 0, 1) := by decide +kernel
theorem dX5_shift_86 : decode cX5_shift 86 = .ok (.aload_n 0, 1) := by decide +kernel
theorem dX5_shift_87 : decode cX5_shift 87 = .ok (.iconst 0, 1) := by decide +kernel
theorem dX5_shift_88 : decode cX5_shift 88 = .ok (.iconst 2, 1) := by decide +kernel
theorem dX5_shift_89 : decode cX5_shift 89 = .ok (.invokevirtual 143, 3) := by decide +kernel
theorem dX5_shift_92 : decode cX5_shift 92 = .ok (.putfield 71, 3) := by decide +kernel
theorem dX5_shift_95 : decode cX5_shift 95 = .ok (.aload_n 0, 1) := by decide +kernel
theorem dX5_shift_96 : decode cX5_shift 96 = .ok (.getfield 71, 3) := by decide +kernel
theorem dX5_shift_99 : decode cX5_shift 99 = .ok (.ifCond .le 7, 3) := by decide +kernel
theorem dX5_shift_102 : decode cX5_shift 102 = .ok (.iconst 0, 1) := by decide +kernel
theorem dX5_shift_103 : decode cX5_shift 103 = .ok (.goto 5, 3) := by decide +kernel
theorem dX5_shift_106 : decode cX5_shift 106 = .ok (.iload 4, 2) := by decide +kernel
theorem dX5_shift_108 : decode cX5_shift 108 = .ok (.ireturn, 1) := by decide +kernel
theorem dX5_keep_0 : decode cX5_keep 0 = .ok (.aload_n 0, 1) := by decide +kernel
theorem dX5_keep_1 : decode cX5_keep 1 = .ok (.aload_n 0, 1) := by decide +kernel
theorem dX5_keep_2 : decode cX5_keep 2 = .ok (.getfield 159, 3) := by decide +kernel
theorem dX5_keep_5 : decode cX5_keep 5 = .ok (.iconst 4, 1) := by decide +kernel
theorem dX5_keep_6 : decode cX5_keep 6 = .ok (.if_icmp .ne 7, 3) := by decide +kernel
theorem dX5_keep_9 : decode cX5_keep 9 = .ok (.iconst 1, 1) := by decide +kernel
theorem dX5_keep_10 : decode cX5_keep 10 = .ok (.goto 4, 3) := by decide +kernel
theorem dX5_keep_13 : decode cX5_keep 13 = .ok (.iconst 0, 1) := by decide +kernel
theorem dX5_keep_14 : decode cX5_keep 14 = .ok (.putfield 71, 3) := by decide +kernel
theorem dX5_keep_17 : decode cX5_keep 17 = .ok (.aload_n 0, 1) := by decide +kernel
theorem dX5_keep_18 : decode cX5_keep 18 = .ok (.getfield 71, 3) := by decide +kernel
theorem dX5_keep_21 : decode cX5_keep 21 = .ok (.ifCond .le 5, 3) := by decide +kernel
theorem dX5_keep_24 : decode cX5_keep 24 = .ok (.iconst 0, 1) := by decide +kernel
theorem dX5_keep_25 : decode cX5_keep 25 = .ok (.ireturn, 1) := by decide +kernel
theorem dX5_keep_26 : decode cX5_keep 26 = .ok (.aload_n 0, 1) := by decide +kernel
theorem dX5_keep_27 : decode cX5_keep 27 = .ok (.getfield 62, 3) := by decide +kernel
theorem dX5_keep_30 : decode cX5_keep 30 = .ok (.aload_n 0, 1) := by decide +kernel
theorem dX5_keep_31 : decode cX5_keep 31 = .ok (.getfield 159, 3) := by decide +kernel
theorem dX5_keep_34 : decode cX5_keep 34 = .ok (.aload_n 0, 1) := by decide +kernel
theorem dX5_keep_35 : decode cX5_keep 35 = .ok (.getfield 82, 3) := by decide +kernel
theorem dX5_keep_38 : decode cX5_keep 38 = .ok (.iastore, 1) := by decide +kernel
theorem dX5_keep_39 : decode cX5_keep 39 = .ok (.iconst 0, 1) := by decide +kernel
theorem dX5_keep_40 : decode cX5_keep 40 = .ok (.istore_n 1, 1) := by decide +kernel
theorem dX5_keep_41 : decode cX5_keep 41 = .ok (.iload_n 1, 1) := by decide +kernel
theorem dX5_keep_42 : decode cX5_keep 42 = .ok (.aload_n 0, 1) := by decide +kernel
theorem dX5_keep_43 : decode cX5_keep 43 = .ok (.getfield 82, 3) := by decide +kernel
theorem dX5_keep_46 : decode cX5_keep 46 = .ok (.if_icmp .ge 29, 3) := by decide +kernel
theorem dX5_keep_49 : decode cX5_keep 49 = .ok (.aload_n 0, 1) := by decide +kernel
theorem dX5_keep_50 : decode cX5_keep 50 = .ok (.getfield 65, 3) := by decide +kernel
theorem dX5_keep_53 : decode cX5_keep 53 = .ok (.bipush 24, 2) := by decide +kernel
theorem dX5_keep_55 : decode cX5_keep 55 = .ok (.aload_n 0, 1) := by decide +kernel
theorem dX5_keep_56 : decode cX5_keep 56 = .ok (.getfield 159, 3) := by decide +kernel
theorem dX5_keep_59 : decode cX5_keep 59 = .ok (.imul, 1) := by decide +kernel
theorem dX5_keep_60 : decode cX5_keep 60 = .ok (.iload_n 1, 1) := by decide +kernel
theorem dX5_keep_61 : decode cX5_keep 61 = .ok (.iadd, 1) := by decide +kernel
theorem dX5_keep_62 : decode cX5_keep 62 = .ok (.aload_n 0, 1) := by decide +kernel
theorem dX5_keep_63 : decode cX5_keep 63 = .ok (.getfield 13, 3) := by decide +kernel
theorem dX5_keep_66 : decode cX5_keep 66 = .ok (.iload_n 1, 1) := by decide +kernel
theorem dX5_keep_67 : decode cX5_keep 67 = .ok (.iaload, 1) := by decide +kernel
theorem dX5_keep_68 : decode cX5_keep 68 = .ok (.iastore, 1) := by decide +kernel
theorem dX5_keep_69 : decode cX5_keep 69 = .ok (.iinc 1 1, 3) := by decide +kernel
theorem dX5_keep_72 : decode cX5_keep 72 = .ok (.goto (-31), 3) := by decide +kernel
theorem dX5_keep_75 : decode cX5_keep 75 = .ok (.iconst 0, 1) := by decide +kernel
theorem dX5_keep_76 : decode cX5_keep 76 = .ok (.istore_n 1, 1) := by decide +kernel
theorem dX5_keep_77 : decode cX5_keep 77 = .ok (.iload_n 1, 1) := by decide +kernel
theorem dX5_keep_78 : decode cX5_keep 78 = .ok (.iconst 4, 1) := by decide +kernel
theorem dX5_keep_79 : decode cX5_keep 79 = .ok (.aload_n 0, 1) := by decide +kernel
theorem dX5_keep_80 : decode cX5_keep 80 = .ok (.getfield 82, 3) := by decide +kernel
theorem dX5_keep_83 : decode cX5_keep 83 = .ok (.imul, 1) := by decide +kernel
theorem dX5_keep_84 : decode cX5_keep 84 = .ok (.if_icmp .ge 29, 3) := by decide +kernel
theorem dX5_keep_87 : decode cX5_keep 87 = .ok (.aload_n 0, 1) := by decide +kernel
theorem dX5_keep_88 : decode cX5_keep 88 = .ok (.getfield 68, 3) := by decide +kernel
theorem dX5_keep_91 : decode cX5_keep 91 = .ok (.bipush 96, 2) := by decide +kernel
theorem dX5_keep_93 : decode cX5_keep 93 = .ok (.aload_n 0, 1) := by decide +kernel
theorem dX5_keep_94 : decode cX5_keep 94 = .ok (.getfield 159, 3) := by decide +kernel
theorem dX5_keep_97 : decode cX5_keep 97 = .ok (.imul, 1) := by decide +kernel
theorem dX5_keep_98 : decode cX5_keep 98 = .ok (.iload_n 1, 1) := by decide +kernel
theorem dX5_keep_99 : decode cX5_keep 99 = .ok (.iadd, 1) := by decide +kernel
theorem dX5_keep_100 : decode cX5_keep 100 = .ok (.aload_n 0, 1) := by decide +kernel
theorem dX5_keep_101 : decode cX5_keep 101 = .ok (.getfield 16, 3) := by decide +kernel
theorem dX5_keep_104 : decode cX5_keep 104 = .ok (.iload_n 1, 1) := by decide +kernel
theorem dX5_keep_105 : decode cX5_keep 105 = .ok (.iaload, 1) := by decide +kernel
theorem dX5_keep_106 : decode cX5_keep 106 = .ok (.iastore, 1) := by decide +kernel
theorem dX5_keep_107 : decode cX5_keep 107 = .ok (.iinc 1 1, 3) := by decide +kernel
theorem dX5_keep_110 : decode cX5_keep 110 = .ok (.goto (-33), 3) := by decide +kernel
theorem dX5_keep_113 : decode cX5_keep 113 = .ok (.aload_n 0, 1) := by decide +kernel
theorem dX5_keep_114 : decode cX5_keep 114 = .ok (.dup, 1) := by decide +kernel
theorem dX5_keep_115 : decode cX5_keep 115 = .ok (.getfield 159, 3) := by decide +kernel
theorem dX5_keep_118 : decode cX5_keep 118 = .ok (.iconst 1, 1) := by decide +kernel
theorem dX5_keep_119 : decode cX5_keep 119 = .ok (.iadd, 1) := by decide +kernel
theorem dX5_keep_120 : decode cX5_keep 120 = .ok (.putfield 159, 3) := by decide +kernel
theorem dX5_keep_123 : decode cX5_keep 123 = .ok (.aload_n 0, 1) := by decide +kernel
theorem dX5_keep_124 : decode cX5_keep 124 = .ok (.getfield 159, 3) := by decide +kernel
theorem dX5_keep_127 : decode cX5_keep 127 = .ok (.ireturn, 1) := by decide +kernel
set_option maxRecDepth 20000 in
theorem ggX5_back_X5_remember : GoodIn wsX5_back wsX5_remember := goodIn_r _ [13, 4, 14, 15, 5, 16, 17, 7, 68, 69, 70, 71, 72, 73, 74, 75, 76, 77, 78, 79, 80, 81, 82, 83, 84, 85, 86, 87, 88, 89, 90, 91, 92, 93, 94, 95, 96, 97, 98] (by decide +kernel) (by decide +kernel)
set_option maxRecDepth 20000 in
theorem gX5_back_X5_remember : GoodIn wsX5_back (wsV RX5 140 RX5 yX5_remember wsX5_remember) := goodIn_app (goodIn_of _ (by decide +kernel)) ggX5_back_X5_remember
set_option maxRecDepth 20000 in
theorem ggX5_back_X5_settle : GoodIn wsX5_back wsX5_settle := goodIn_r _ [21, 22, 23, 24, 25, 12, 26, 27, 28, 29, 30, 31, 32, 33, 34, 35, 36, 4, 5, 7, 37, 38, 39, 40, 41, 42, 43, 44, 45, 46, 47, 48, 49, 50, 51, 52, 53, 54, 55, 56, 57, 58, 59, 60, 61, 62, 63, 64, 65, 66, 67, 14, 15, 17, 68, 69, 70, 71, 72, 73, 74, 75, 76, 77, 78, 79, 80, 81, 82, 83, 84, 85, 86, 87, 88, 89, 90, 91, 92, 93, 94, 95, 96, 97, 98] (by decide +kernel) (by decide +kernel)
set_option maxRecDepth 20000 in
theorem gX5_back_X5_settle : GoodIn wsX5_back (wsV RX5 143 RX5 yX5_settle wsX5_settle) := goodIn_app (goodIn_of _ (by decide +kernel)) ggX5_back_X5_settle
theorem dX5_back_0 : decode cX5_back 0 = .ok (.aload_n 0, 1) := by decide +kernel
theorem dX5_back_1 : decode cX5_back 1 = .ok (.aload_n 0, 1) := by decide +kernel
theorem dX5_back_2 : decode cX5_back 2 = .ok (.getfield 159, 3) := by decide +kernel
theorem dX5_back_5 : decode cX5_back 5 = .ok (.ifCond .ne 7, 3) := by decide +kernel
theorem dX5_back_8 : decode cX5_back 8 = .ok (.iconst 1, 1) := by decide +kernel
theorem dX5_back_9 : decode cX5_back 9 = .ok (.goto 4, 3) := by decide +kernel
theorem dX5_back_12 : decode cX5_back 12 = .ok (.iconst 0, 1) := by decide +kernel
theorem dX5_back_13 : decode cX5_back 13 = .ok (.putfield 71, 3) := by decide +kernel
theorem dX5_back_16 : decode cX5_back 16 = .ok (.aload_n 0, 1) := by decide +kernel
theorem dX5_back_17 : decode cX5_back 17 = .ok (.getfield 71, 3) := by decide +kernel
theorem dX5_back_20 : decode cX5_back 20 = .ok (.ifCond .le 5, 3) := by decide +kernel
theorem dX5_back_23 : decode cX5_back 23 = .ok (.iconst 0, 1) := by decide +kernel
theorem dX5_back_24 : decode cX5_back 24 = .ok (.ireturn, 1) := by decide +kernel
theorem dX5_back_25 : decode cX5_back 25 = .ok (.aload_n 0, 1) := by decide +kernel
theorem dX5_back_26 : decode cX5_back 26 = .ok (.invokevirtual 140, 3) := by decide +kernel
theorem dX5_back_29 : decode cX5_back 29 = .ok (.aload_n 0, 1) := by decide +kernel
theorem dX5_back_30 : decode cX5_back 30 = .ok (.getfield 159, 3) := by decide +kernel
theorem dX5_back_33 : decode cX5_back 33 = .ok (.iconst 1, 1) := by decide +kernel
theorem dX5_back_34 : decode cX5_back 34 = .ok (.isub, 1) := by decide +kernel
theorem dX5_back_35 : decode cX5_back 35 = .ok (.istore_n 1, 1) := by decide +kernel
theorem dX5_back_36 : decode cX5_back 36 = .ok (.aload_n 0, 1) := by decide +kernel
theorem dX5_back_37 : decode cX5_back 37 = .ok (.aload_n 0, 1) := by decide +kernel
theorem dX5_back_38 : decode cX5_back 38 = .ok (.getfield 62, 3) := by decide +kernel
theorem dX5_back_41 : decode cX5_back 41 = .ok (.iload_n 1, 1) := by decide +kernel
theorem dX5_back_42 : decode cX5_back 42 = .ok (.iaload, 1) := by decide +kernel
theorem dX5_back_43 : decode cX5_back 43 = .ok (.putfield 82, 3) := by decide +kernel
theorem dX5_back_46 : decode cX5_back 46 = .ok (.iconst 0, 1) := by decide +kernel
theorem dX5_back_47 : decode cX5_back 47 = .ok (.istore_n 2, 1) := by decide +kernel
theorem dX5_back_48 : decode cX5_back 48 = .ok (.iload_n 2, 1) := by decide +kernel
theorem dX5_back_49 : decode cX5_back 49 = .ok (.aload_n 0, 1) := by decide +kernel
theorem dX5_back_50 : decode cX5_back 50 = .ok (.getfield 82, 3) := by decide +kernel
theorem dX5_back_53 : decode cX5_back 53 = .ok (.if_icmp .ge 26, 3) := by decide +kernel
theorem dX5_back_56 : decode cX5_back 56 = .ok (.aload_n 0, 1) := by decide +kernel
theorem dX5_back_57 : decode cX5_back 57 = .ok (.getfield 13, 3) := by decide +kernel
theorem dX5_back_60 : decode cX5_back 60 = .ok (.iload_n 2, 1) := by decide +kernel
theorem dX5_back_61 : decode cX5_back 61 = .ok (.aload_n 0, 1) := by decide +kernel
theorem dX5_back_62 : decode cX5_back 62 = .ok (.getfield 65, 3) := by decide +kernel
theorem dX5_back_65 : decode cX5_back 65 = .ok (.bipush 24, 2) := by decide +kernel
theorem dX5_back_67 : decode cX5_back 67 = .ok (.iload_n 1, 1) := by decide +kernel
theorem dX5_back_68 : decode cX5_back 68 = .ok (.imul, 1) := by decide +kernel
theorem dX5_back_69 : decode cX5_back 69 = .ok (.iload_n 2, 1) := by decide +kernel
theorem dX5_back_70 : decode cX5_back 70 = .ok (.iadd, 1) := by decide +kernel
theorem dX5_back_71 : decode cX5_back 71 = .ok (.iaload, 1) := by decide +kernel
theorem dX5_back_72 : decode cX5_back 72 = .ok (.iastore, 1) := by decide +kernel
theorem dX5_back_73 : decode cX5_back 73 = .ok (.iinc 2 1, 3) := by decide +kernel
theorem dX5_back_76 : decode cX5_back 76 = .ok (.goto (-28), 3) := by decide +kernel
theorem dX5_back_79 : decode cX5_back 79 = .ok (.iconst 0, 1) := by decide +kernel
theorem dX5_back_80 : decode cX5_back 80 = .ok (.istore_n 2, 1) := by decide +kernel
theorem dX5_back_81 : decode cX5_back 81 = .ok (.iload_n 2, 1) := by decide +kernel
theorem dX5_back_82 : decode cX5_back 82 = .ok (.iconst 4, 1) := by decide +kernel
theorem dX5_back_83 : decode cX5_back 83 = .ok (.aload_n 0, 1) := by decide +kernel
theorem dX5_back_84 : decode cX5_back 84 = .ok (.getfield 82, 3) := by decide +kernel
theorem dX5_back_87 : decode cX5_back 87 = .ok (.imul, 1) := by decide +kernel
theorem dX5_back_88 : decode cX5_back 88 = .ok (.if_icmp .ge 26, 3) := by decide +kernel
theorem dX5_back_91 : decode cX5_back 91 = .ok (.aload_n 0, 1) := by decide +kernel
theorem dX5_back_92 : decode cX5_back 92 = .ok (.getfield 16, 3) := by decide +kernel
theorem dX5_back_95 : decode cX5_back 95 = .ok (.iload_n 2, 1) := by decide +kernel
theorem dX5_back_96 : decode cX5_back 96 = .ok (.aload_n 0, 1) := by decide +kernel
theorem dX5_back_97 : decode cX5_back 97 = .ok (.getfield 68, 3) := by decide +kernel
theorem dX5_back_100 : decode cX5_back 100 = .ok (.bipush 96, 2) := by decide +kernel
theorem dX5_back_102 : decode cX5_back 102 = .ok (.iload_n 1, 1) := by decide +kernel
theorem dX5_back_103 : decode cX5_back 103 = .ok (.imul, 1) := by decide +kernel
theorem dX5_back_104 : decode cX5_back 104 = .ok (.iload_n 2, 1) := by decide +kernel
theorem dX5_back_105 : decode cX5_back 105 = .ok (.iadd, 1) := by decide +kernel
theorem dX5_back_106 : decode cX5_back 106 = .ok (.iaload, 1) := by decide +kernel
theorem dX5_back_107 : decode cX5_back 107 = .ok (.iastore, 1) := by decide +kernel
theorem dX5_back_108 : decode cX5_back 108 = .ok (.iinc 2 1, 3) := by decide +kernel
theorem dX5_back_111 : decode cX5_back 111 = .ok (.goto (-30), 3) := by decide +kernel
theorem dX5_back_114 : decode cX5_back 114 = .ok (.aload_n 0, 1) := by decide +kernel
theorem dX5_back_115 : decode cX5_back 115 = .ok (.aload_n 0, 1) := by decide +kernel
theorem dX5_back_116 : decode cX5_back 116 = .ok (.iconst 0, 1) := by decide +kernel
theorem dX5_back_117 : decode cX5_back 117 = .ok (.iconst 2, 1) := by decide +kernel
theorem dX5_back_118 : decode cX5_back 118 = .ok (.invokevirtual 143, 3) := by decide +kernel
theorem dX5_back_121 : decode cX5_back 121 = .ok (.putfield 71, 3) := by decide +kernel
theorem dX5_back_124 : decode cX5_back 124 = .ok (.aload_n 0, 1) := by decide +kernel
theorem dX5_back_125 : decode cX5_back 125 = .ok (.getfield 71, 3) := by decide +kernel
theorem dX5_back_128 : decode cX5_back 128 = .ok (.ifCond .le 5, 3) := by decide +kernel
theorem dX5_back_131 : decode cX5_back 131 = .ok (.iconst 0, 1) := by decide +kernel
theorem dX5_back_132 : decode cX5_back 132 = .ok (.ireturn, 1) := by decide +kernel
theorem dX5_back_133 : decode cX5_back 133 = .ok (.aload_n 0, 1) := by decide +kernel
theorem dX5_back_134 : decode cX5_back 134 = .ok (.dup, 1) := by decide +kernel
theorem dX5_back_135 : decode cX5_back 135 = .ok (.getfield 159, 3) := by decide +kernel
theorem dX5_back_138 : decode cX5_back 138 = .ok (.iconst 1, 1) := by decide +kernel
theorem dX5_back_139 : decode cX5_back 139 = .ok (.isub, 1) := by decide +kernel
theorem dX5_back_140 : decode cX5_back 140 = .ok (.putfield 159, 3) := by decide +kernel
theorem dX5_back_143 : decode cX5_back 143 = .ok (.aload_n 0, 1) := by decide +kernel
theorem dX5_back_144 : decode cX5_back 144 = .ok (.getfield 159, 3) := by decide +kernel
theorem dX5_back_147 : decode cX5_back 147 = .ok (.ireturn, 1) := by decide +kernel
set_option maxRecDepth 20000 in
theorem ggX5_has_X5_isTable : GoodIn wsX5_has wsX5_isTable := goodIn_r _ [6, 7, 15, 16, 17, 18, 19, 20, 21, 22, 23, 24, 25, 26, 27, 28, 29, 30, 31, 32, 33, 34, 35, 36, 37, 38, 39, 40, 41, 42, 43, 44, 45] (by decide +kernel) (by decide +kernel)
set_option maxRecDepth 20000 in
theorem gX5_has_X5_isTable : GoodIn wsX5_has (wsV RX5 78 RX5 yX5_isTable wsX5_isTable) := goodIn_app (goodIn_of _ (by decide +kernel)) ggX5_has_X5_isTable
set_option maxRecDepth 20000 in
theorem ggX5_has_X5_find : GoodIn wsX5_has wsX5_find := goodIn_r _ [11, 12, 13, 14, 15, 16, 17, 18, 19, 20, 21, 22, 23, 24, 25, 26, 27, 28, 29, 30, 31, 32, 33, 34, 35, 36, 37, 38, 39, 40, 41, 42, 43, 44, 45] (by decide +kernel) (by decide +kernel)
set_option maxRecDepth 20000 in
theorem gX5_has_X5_find : GoodIn wsX5_has (wsV RX5 85 RX5 yX5_find wsX5_find) := goodIn_app (goodIn_of _ (by decide +kernel)) ggX5_has_X5_find
theorem dX5_has_0 : decode cX5_has 0 = .ok (.aload_n 0, 1) := by decide +kernel
theorem dX5_has_1 : decode cX5_has 1 = .ok (.aload_n 0, 1) := by decide +kernel
theorem dX5_has_2 : decode cX5_has 2 = .ok (.iload_n 1, 1) := by decide +kernel
theorem dX5_has_3 : decode cX5_has 3 = .ok (.invokevirtual 78, 3) := by decide +kernel
theorem dX5_has_6 : decode cX5_has 6 = .ok (.ifCond .eq 7, 3) := by decide +kernel
theorem dX5_has_9 : decode cX5_has 9 = .ok (.iconst 0, 1) := by decide +kernel
theorem dX5_has_10 : decode cX5_has 10 = .ok (.goto 4, 3) := by decide +kernel
theorem dX5_has_13 : decode cX5_has 13 = .ok (.iconst 1, 1) := by decide +kernel
theorem dX5_has_14 : decode cX5_has 14 = .ok (.putfield 71, 3) := by decide +kernel
theorem dX5_has_17 : decode cX5_has 17 = .ok (.aload_n 0, 1) := by decide +kernel
theorem dX5_has_18 : decode cX5_has 18 = .ok (.getfield 71, 3) := by decide +kernel
theorem dX5_has_21 : decode cX5_has 21 = .ok (.ifCond .ne 20, 3) := by decide +kernel
theorem dX5_has_24 : decode cX5_has 24 = .ok (.iload_n 2, 1) := by decide +kernel
theorem dX5_has_25 : decode cX5_has 25 = .ok (.ifCond .eq 16, 3) := by decide +kernel
theorem dX5_has_28 : decode cX5_has 28 = .ok (.aload_n 0, 1) := by decide +kernel
theorem dX5_has_29 : decode cX5_has 29 = .ok (.iload_n 1, 1) := by decide +kernel
theorem dX5_has_30 : decode cX5_has 30 = .ok (.iload_n 2, 1) := by decide +kernel
theorem dX5_has_31 : decode cX5_has 31 = .ok (.invokevirtual 85, 3) := by decide +kernel
theorem dX5_has_34 : decode cX5_has 34 = .ok (.ifCond .lt 7, 3) := by decide +kernel
theorem dX5_has_37 : decode cX5_has 37 = .ok (.iconst 1, 1) := by decide +kernel
theorem dX5_has_38 : decode cX5_has 38 = .ok (.goto 4, 3) := by decide +kernel
theorem dX5_has_41 : decode cX5_has 41 = .ok (.iconst 0, 1) := by decide +kernel
theorem dX5_has_42 : decode cX5_has 42 = .ok (.ireturn, 1) := by decide +kernel
set_option maxRecDepth 20000 in
theorem ggX5_cell_X5_isColumn : GoodIn wsX5_cell wsX5_isColumn := goodIn_r _ [7, 8, 9, 10, 11, 6, 12, 13, 20, 21, 22, 23, 24, 25, 26, 27, 28, 29, 30, 31, 32, 33, 34, 35, 36, 37, 38, 39, 40, 41, 42, 43, 44, 45, 46, 47, 48, 49, 50] (by decide +kernel) (by decide +kernel)
set_option maxRecDepth 20000 in
theorem gX5_cell_X5_isColumn : GoodIn wsX5_cell (wsV RX5 118 RX5 yX5_isColumn wsX5_isColumn) := goodIn_app (goodIn_of _ (by decide +kernel)) ggX5_cell_X5_isColumn
set_option maxRecDepth 20000 in
theorem ggX5_cell_X5_find : GoodIn wsX5_cell wsX5_find := goodIn_r _ [17, 18, 19, 2, 20, 21, 22, 23, 24, 25, 26, 27, 28, 29, 30, 31, 32, 33, 34, 35, 36, 37, 38, 39, 40, 41, 42, 43, 44, 45, 46, 47, 48, 49, 50] (by decide +kernel) (by decide +kernel)
set_option maxRecDepth 20000 in
theorem gX5_cell_X5_find : GoodIn wsX5_cell (wsV RX5 85 RX5 yX5_find wsX5_find) := goodIn_app (goodIn_of _ (by decide +kernel)) ggX5_cell_X5_find
theorem dX5_cell_0 : decode cX5_cell 0 = .ok (.aload_n 0, 1) := by decide +kernel
theorem dX5_cell_1 : decode cX5_cell 1 = .ok (.aload_n 0, 1) := by decide +kernel
theorem dX5_cell_2 : decode cX5_cell 2 = .ok (.iload_n 1, 1) := by decide +kernel
theorem dX5_cell_3 : decode cX5_cell 3 = .ok (.iload_n 3, 1) := by decide +kernel
theorem dX5_cell_4 : decode cX5_cell 4 = .ok (.invokevirtual 118, 3) := by decide +kernel
theorem dX5_cell_7 : decode cX5_cell 7 = .ok (.ifCond .ne 7, 3) := by decide +kernel
theorem dX5_cell_10 : decode cX5_cell 10 = .ok (.iconst 1, 1) := by decide +kernel
theorem dX5_cell_11 : decode cX5_cell 11 = .ok (.goto 21, 3) := by decide +kernel
theorem dX5_cell_14 : decode cX5_cell 14 = .ok (.iload_n 2, 1) := by decide +kernel
theorem dX5_cell_15 : decode cX5_cell 15 = .ok (.ifCond .eq 12, 3) := by decide +kernel
theorem dX5_cell_18 : decode cX5_cell 18 = .ok (.aload_n 0, 1) := by decide +kernel
theorem dX5_cell_19 : decode cX5_cell 19 = .ok (.iload_n 1, 1) := by decide +kernel
theorem dX5_cell_20 : decode cX5_cell 20 = .ok (.iload_n 2, 1) := by decide +kernel
theorem dX5_cell_21 : decode cX5_cell 21 = .ok (.invokevirtual 85, 3) := by decide +kernel
theorem dX5_cell_24 : decode cX5_cell 24 = .ok (.ifCond .ge 7, 3) := by decide +kernel
theorem dX5_cell_27 : decode cX5_cell 27 = .ok (.iconst 2, 1) := by decide +kernel
theorem dX5_cell_28 : decode cX5_cell 28 = .ok (.goto 4, 3) := by decide +kernel
theorem dX5_cell_31 : decode cX5_cell 31 = .ok (.iconst 0, 1) := by decide +kernel
theorem dX5_cell_32 : decode cX5_cell 32 = .ok (.putfield 71, 3) := by decide +kernel
theorem dX5_cell_35 : decode cX5_cell 35 = .ok (.aload_n 0, 1) := by decide +kernel
theorem dX5_cell_36 : decode cX5_cell 36 = .ok (.getfield 71, 3) := by decide +kernel
theorem dX5_cell_39 : decode cX5_cell 39 = .ok (.ifCond .le 5, 3) := by decide +kernel
theorem dX5_cell_42 : decode cX5_cell 42 = .ok (.iconst 0, 1) := by decide +kernel
theorem dX5_cell_43 : decode cX5_cell 43 = .ok (.ireturn, 1) := by decide +kernel
theorem dX5_cell_44 : decode cX5_cell 44 = .ok (.aload_n 0, 1) := by decide +kernel
theorem dX5_cell_45 : decode cX5_cell 45 = .ok (.iload_n 1, 1) := by decide +kernel
theorem dX5_cell_46 : decode cX5_cell 46 = .ok (.iload_n 2, 1) := by decide +kernel
theorem dX5_cell_47 : decode cX5_cell 47 = .ok (.invokevirtual 85, 3) := by decide +kernel
theorem dX5_cell_50 : decode cX5_cell 50 = .ok (.istore 4, 2) := by decide +kernel
theorem dX5_cell_52 : decode cX5_cell 52 = .ok (.aload_n 0, 1) := by decide +kernel
theorem dX5_cell_53 : decode cX5_cell 53 = .ok (.getfield 16, 3) := by decide +kernel
theorem dX5_cell_56 : decode cX5_cell 56 = .ok (.iconst 4, 1) := by decide +kernel
theorem dX5_cell_57 : decode cX5_cell 57 = .ok (.iload 4, 2) := by decide +kernel
theorem dX5_cell_59 : decode cX5_cell 59 = .ok (.imul, 1) := by decide +kernel
theorem dX5_cell_60 : decode cX5_cell 60 = .ok (.iload_n 3, 1) := by decide +kernel
theorem dX5_cell_61 : decode cX5_cell 61 = .ok (.iadd, 1) := by decide +kernel
theorem dX5_cell_62 : decode cX5_cell 62 = .ok (.iaload, 1) := by decide +kernel
theorem dX5_cell_63 : decode cX5_cell 63 = .ok (.ireturn, 1) := by decide +kernel
set_option maxRecDepth 20000 in
theorem ggX5_key_X5_isTable : GoodIn wsX5_key wsX5_isTable := goodIn_r _ [9, 10, 11, 12, 13, 14, 15, 16, 17, 18, 19, 20, 21, 22, 23, 24, 25, 26, 27, 28, 29, 30, 31, 32, 33, 34, 35, 36, 37, 38, 39, 40, 41] (by decide +kernel) (by decide +kernel)
set_option maxRecDepth 20000 in
theorem gX5_key_X5_isTable : GoodIn wsX5_key (wsV RX5 78 RX5 yX5_isTable wsX5_isTable) := goodIn_app (goodIn_of _ (by decide +kernel)) ggX5_key_X5_isTable
theorem dX5_key_0 : decode cX5_key 0 = .ok (.aload_n 0, 1) := by decide +kernel
theorem dX5_key_1 : decode cX5_key 1 = .ok (.aload_n 0, 1) := by decide +kernel
theorem dX5_key_2 : decode cX5_key 2 = .ok (.iload_n 1, 1) := by decide +kernel
theorem dX5_key_3 : decode cX5_key 3 = .ok (.invokevirtual 78, 3) := by decide +kernel
theorem dX5_key_6 : decode cX5_key 6 = .ok (.ifCond .eq 7, 3) := by decide +kernel
theorem dX5_key_9 : decode cX5_key 9 = .ok (.iconst 0, 1) := by decide +kernel
theorem dX5_key_10 : decode cX5_key 10 = .ok (.goto 4, 3) := by decide +kernel
theorem dX5_key_13 : decode cX5_key 13 = .ok (.iconst 1, 1) := by decide +kernel
theorem dX5_key_14 : decode cX5_key 14 = .ok (.putfield 71, 3) := by decide +kernel
theorem dX5_key_17 : decode cX5_key 17 = .ok (.aload_n 0, 1) := by decide +kernel
theorem dX5_key_18 : decode cX5_key 18 = .ok (.getfield 71, 3) := by decide +kernel
theorem dX5_key_21 : decode cX5_key 21 = .ok (.ifCond .le 5, 3) := by decide +kernel
theorem dX5_key_24 : decode cX5_key 24 = .ok (.iconst 0, 1) := by decide +kernel
theorem dX5_key_25 : decode cX5_key 25 = .ok (.ireturn, 1) := by decide +kernel
theorem dX5_key_26 : decode cX5_key 26 = .ok (.iconst 0, 1) := by decide +kernel
theorem dX5_key_27 : decode cX5_key 27 = .ok (.istore_n 3, 1) := by decide +kernel
theorem dX5_key_28 : decode cX5_key 28 = .ok (.iload_n 3, 1) := by decide +kernel
theorem dX5_key_29 : decode cX5_key 29 = .ok (.aload_n 0, 1) := by decide +kernel
theorem dX5_key_30 : decode cX5_key 30 = .ok (.getfield 82, 3) := by decide +kernel
theorem dX5_key_33 : decode cX5_key 33 = .ok (.if_icmp .ge 96, 3) := by decide +kernel
theorem dX5_key_36 : decode cX5_key 36 = .ok (.iconst 0, 1) := by decide +kernel
theorem dX5_key_37 : decode cX5_key 37 = .ok (.istore 4, 2) := by decide +kernel
theorem dX5_key_39 : decode cX5_key 39 = .ok (.iconst 0, 1) := by decide +kernel
theorem dX5_key_40 : decode cX5_key 40 = .ok (.istore 5, 2) := by decide +kernel
theorem dX5_key_42 : decode cX5_key 42 = .ok (.iload 5, 2) := by decide +kernel
theorem dX5_key_44 : decode cX5_key 44 = .ok (.aload_n 0, 1) := by decide +kernel
theorem dX5_key_45 : decode cX5_key 45 = .ok (.getfield 82, 3) := by decide +kernel
theorem dX5_key_48 : decode cX5_key 48 = .ok (.if_icmp .ge 50, 3) := by decide +kernel
theorem dX5_key_51 : decode cX5_key 51 = .ok (.iload 4, 2) := by decide +kernel
theorem dX5_key_53 : decode cX5_key 53 = .ok (.aload_n 0, 1) := by decide +kernel
theorem dX5_key_54 : decode cX5_key 54 = .ok (.getfield 13, 3) := by decide +kernel
theorem dX5_key_57 : decode cX5_key 57 = .ok (.iload 5, 2) := by decide +kernel
theorem dX5_key_59 : decode cX5_key 59 = .ok (.iaload, 1) := by decide +kernel
theorem dX5_key_60 : decode cX5_key 60 = .ok (.iload_n 1, 1) := by decide +kernel
theorem dX5_key_61 : decode cX5_key 61 = .ok (.if_icmp .ne 27, 3) := by decide +kernel
theorem dX5_key_64 : decode cX5_key 64 = .ok (.aload_n 0, 1) := by decide +kernel
theorem dX5_key_65 : decode cX5_key 65 = .ok (.getfield 16, 3) := by decide +kernel
theorem dX5_key_68 : decode cX5_key 68 = .ok (.iconst 4, 1) := by decide +kernel
theorem dX5_key_69 : decode cX5_key 69 = .ok (.iload 5, 2) := by decide +kernel
theorem dX5_key_71 : decode cX5_key 71 = .ok (.imul, 1) := by decide +kernel
theorem dX5_key_72 : decode cX5_key 72 = .ok (.iaload, 1) := by decide +kernel
theorem dX5_key_73 : decode cX5_key 73 = .ok (.aload_n 0, 1) := by decide +kernel
theorem dX5_key_74 : decode cX5_key 74 = .ok (.getfield 16, 3) := by decide +kernel
theorem dX5_key_77 : decode cX5_key 77 = .ok (.iconst 4, 1) := by decide +kernel
theorem dX5_key_78 : decode cX5_key 78 = .ok (.iload_n 3, 1) := by decide +kernel
theorem dX5_key_79 : decode cX5_key 79 = .ok (.imul, 1) := by decide +kernel
theorem dX5_key_80 : decode cX5_key 80 = .ok (.iaload, 1) := by decide +kernel
theorem dX5_key_81 : decode cX5_key 81 = .ok (.if_icmp .ge 7, 3) := by decide +kernel
theorem dX5_key_84 : decode cX5_key 84 = .ok (.iconst 1, 1) := by decide +kernel
theorem dX5_key_85 : decode cX5_key 85 = .ok (.goto 4, 3) := by decide +kernel
theorem dX5_key_88 : decode cX5_key 88 = .ok (.iconst 0, 1) := by decide +kernel
theorem dX5_key_89 : decode cX5_key 89 = .ok (.iadd, 1) := by decide +kernel
theorem dX5_key_90 : decode cX5_key 90 = .ok (.istore 4, 2) := by decide +kernel
theorem dX5_key_92 : decode cX5_key 92 = .ok (.iinc 5 1, 3) := by decide +kernel
theorem dX5_key_95 : decode cX5_key 95 = .ok (.goto (-53), 3) := by decide +kernel
theorem dX5_key_98 : decode cX5_key 98 = .ok (.aload_n 0, 1) := by decide +kernel
theorem dX5_key_99 : decode cX5_key 99 = .ok (.getfield 13, 3) := by decide +kernel
theorem dX5_key_102 : decode cX5_key 102 = .ok (.iload_n 3, 1) := by decide +kernel
theorem dX5_key_103 : decode cX5_key 103 = .ok (.iaload, 1) := by decide +kernel
theorem dX5_key_104 : decode cX5_key 104 = .ok (.iload_n 1, 1) := by decide +kernel
theorem dX5_key_105 : decode cX5_key 105 = .ok (.if_icmp .ne 18, 3) := by decide +kernel
theorem dX5_key_108 : decode cX5_key 108 = .ok (.iload 4, 2) := by decide +kernel
theorem dX5_key_110 : decode cX5_key 110 = .ok (.iload_n 2, 1) := by decide +kernel
theorem dX5_key_111 : decode cX5_key 111 = .ok (.if_icmp .ne 12, 3) := by decide +kernel
theorem dX5_key_114 : decode cX5_key 114 = .ok (.aload_n 0, 1) := by decide +kernel
theorem dX5_key_115 : decode cX5_key 115 = .ok (.getfield 16, 3) := by decide +kernel
theorem dX5_key_118 : decode cX5_key 118 = .ok (.iconst 4, 1) := by decide +kernel
theorem dX5_key_119 : decode cX5_key 119 = .ok (.iload_n 3, 1) := by decide +kernel
theorem dX5_key_120 : decode cX5_key 120 = .ok (.imul, 1) := by decide +kernel
theorem dX5_key_121 : decode cX5_key 121 = .ok (.iaload, 1) := by decide +kernel
theorem dX5_key_122 : decode cX5_key 122 = .ok (.ireturn, 1) := by decide +kernel
theorem dX5_key_123 : decode cX5_key 123 = .ok (.iinc 3 1, 3) := by decide +kernel
theorem dX5_key_126 : decode cX5_key 126 = .ok (.goto (-98), 3) := by decide +kernel
theorem dX5_key_129 : decode cX5_key 129 = .ok (.aload_n 0, 1) := by decide +kernel
theorem dX5_key_130 : decode cX5_key 130 = .ok (.iconst 2, 1) := by decide +kernel
theorem dX5_key_131 : decode cX5_key 131 = .ok (.putfield 71, 3) := by decide +kernel
theorem dX5_key_134 : decode cX5_key 134 = .ok (.iconst 0, 1) := by decide +kernel
theorem dX5_key_135 : decode cX5_key 135 = .ok (.ireturn, 1) := by decide +kernel
set_option maxRecDepth 20000 in
theorem ggX5_count_X5_isTable : GoodIn wsX5_count wsX5_isTable := goodIn_r _ [8, 9, 10, 11, 12, 13, 14, 15, 16, 17, 18, 19, 20, 21, 22, 23, 24, 25, 26, 27, 28, 29, 30, 31, 32, 33, 34, 35, 36, 37, 38, 39, 40] (by decide +kernel) (by decide +kernel)
set_option maxRecDepth 20000 in
theorem gX5_count_X5_isTable : GoodIn wsX5_count (wsV RX5 78 RX5 yX5_isTable wsX5_isTable) := goodIn_app (goodIn_of _ (by decide +kernel)) ggX5_count_X5_isTable
theorem dX5_count_0 : decode cX5_count 0 = .ok (.aload_n 0, 1) := by decide +kernel
theorem dX5_count_1 : decode cX5_count 1 = .ok (.aload_n 0, 1) := by decide +kernel
theorem dX5_count_2 : decode cX5_count 2 = .ok (.iload_n 1, 1) := by decide +kernel
theorem dX5_count_3 : decode cX5_count 3 = .ok (.invokevirtual 78, 3) := by decide +kernel
theorem dX5_count_6 : decode cX5_count 6 = .ok (.ifCond .eq 7, 3) := by decide +kernel
theorem dX5_count_9 : decode cX5_count 9 = .ok (.iconst 0, 1) := by decide +kernel
theorem dX5_count_10 : decode cX5_count 10 = .ok (.goto 4, 3) := by decide +kernel
theorem dX5_count_13 : decode cX5_count 13 = .ok (.iconst 1, 1) := by decide +kernel
theorem dX5_count_14 : decode cX5_count 14 = .ok (.putfield 71, 3) := by decide +kernel
theorem dX5_count_17 : decode cX5_count 17 = .ok (.iconst 0, 1) := by decide +kernel
theorem dX5_count_18 : decode cX5_count 18 = .ok (.istore_n 2, 1) := by decide +kernel
theorem dX5_count_19 : decode cX5_count 19 = .ok (.iconst 0, 1) := by decide +kernel
theorem dX5_count_20 : decode cX5_count 20 = .ok (.istore_n 3, 1) := by decide +kernel
theorem dX5_count_21 : decode cX5_count 21 = .ok (.iload_n 3, 1) := by decide +kernel
theorem dX5_count_22 : decode cX5_count 22 = .ok (.aload_n 0, 1) := by decide +kernel
theorem dX5_count_23 : decode cX5_count 23 = .ok (.getfield 82, 3) := by decide +kernel
theorem dX5_count_26 : decode cX5_count 26 = .ok (.if_icmp .ge 34, 3) := by decide +kernel
theorem dX5_count_29 : decode cX5_count 29 = .ok (.aload_n 0, 1) := by decide +kernel
theorem dX5_count_30 : decode cX5_count 30 = .ok (.getfield 71, 3) := by decide +kernel
theorem dX5_count_33 : decode cX5_count 33 = .ok (.ifCond .ne 27, 3) := by decide +kernel
theorem dX5_count_36 : decode cX5_count 36 = .ok (.iload_n 2, 1) := by decide +kernel
theorem dX5_count_37 : decode cX5_count 37 = .ok (.aload_n 0, 1) := by decide +kernel
theorem dX5_count_38 : decode cX5_count 38 = .ok (.getfield 13, 3) := by decide +kernel
theorem dX5_count_41 : decode cX5_count 41 = .ok (.iload_n 3, 1) := by decide +kernel
theorem dX5_count_42 : decode cX5_count 42 = .ok (.iaload, 1) := by decide +kernel
theorem dX5_count_43 : decode cX5_count 43 = .ok (.iload_n 1, 1) := by decide +kernel
theorem dX5_count_44 : decode cX5_count 44 = .ok (.if_icmp .ne 7, 3) := by decide +kernel
theorem dX5_count_47 : decode cX5_count 47 = .ok (.iconst 1, 1) := by decide +kernel
theorem dX5_count_48 : decode cX5_count 48 = .ok (.goto 4, 3) := by decide +kernel
theorem dX5_count_51 : decode cX5_count 51 = .ok (.iconst 0, 1) := by decide +kernel
theorem dX5_count_52 : decode cX5_count 52 = .ok (.iadd, 1) := by decide +kernel
theorem dX5_count_53 : decode cX5_count 53 = .ok (.istore_n 2, 1) := by decide +kernel
theorem dX5_count_54 : decode cX5_count 54 = .ok (.iinc 3 1, 3) := by decide +kernel
theorem dX5_count_57 : decode cX5_count 57 = .ok (.goto (-36), 3) := by decide +kernel
theorem dX5_count_60 : decode cX5_count 60 = .ok (.iload_n 2, 1) := by decide +kernel
theorem dX5_count_61 : decode cX5_count 61 = .ok (.ireturn, 1) := by decide +kernel
set_option maxRecDepth 20000 in
theorem ggX5_referring_X5_find : GoodIn wsX5_referring wsX5_find := goodIn_r _ [13, 4, 5, 7, 14, 15, 16, 17, 18, 19, 20, 21, 22, 23, 24, 25, 26, 27, 28, 29, 30, 31, 32, 33, 34, 35, 36, 37, 38, 39, 40, 41, 42, 43, 44] (by decide +kernel) (by decide +kernel)
set_option maxRecDepth 20000 in
theorem gX5_referring_X5_find : GoodIn wsX5_referring (wsV RX5 85 RX5 yX5_find wsX5_find) := goodIn_app (goodIn_of _ (by decide +kernel)) ggX5_referring_X5_find
theorem dX5_referring_0 : decode cX5_referring 0 = .ok (.aload_n 0, 1) := by decide +kernel
theorem dX5_referring_1 : decode cX5_referring 1 = .ok (.iload_n 1, 1) := by decide +kernel
theorem dX5_referring_2 : decode cX5_referring 2 = .ok (.ifCond .lt 11, 3) := by decide +kernel
theorem dX5_referring_5 : decode cX5_referring 5 = .ok (.iload_n 1, 1) := by decide +kernel
theorem dX5_referring_6 : decode cX5_referring 6 = .ok (.aload_n 0, 1) := by decide +kernel
theorem dX5_referring_7 : decode cX5_referring 7 = .ok (.getfield 106, 3) := by decide +kernel
theorem dX5_referring_10 : decode cX5_referring 10 = .ok (.if_icmp .lt 7, 3) := by decide +kernel
theorem dX5_referring_13 : decode cX5_referring 13 = .ok (.iconst 1, 1) := by decide +kernel
theorem dX5_referring_14 : decode cX5_referring 14 = .ok (.goto 26, 3) := by decide +kernel
theorem dX5_referring_17 : decode cX5_referring 17 = .ok (.iload_n 2, 1) := by decide +kernel
theorem dX5_referring_18 : decode cX5_referring 18 = .ok (.ifCond .eq 17, 3) := by decide +kernel
theorem dX5_referring_21 : decode cX5_referring 21 = .ok (.aload_n 0, 1) := by decide +kernel
theorem dX5_referring_22 : decode cX5_referring 22 = .ok (.aload_n 0, 1) := by decide +kernel
theorem dX5_referring_23 : decode cX5_referring 23 = .ok (.getfield 35, 3) := by decide +kernel
theorem dX5_referring_26 : decode cX5_referring 26 = .ok (.iload_n 1, 1) := by decide +kernel
theorem dX5_referring_27 : decode cX5_referring 27 = .ok (.iaload, 1) := by decide +kernel
theorem dX5_referring_28 : decode cX5_referring 28 = .ok (.iload_n 2, 1) := by decide +kernel
theorem dX5_referring_29 : decode cX5_referring 29 = .ok (.invokevirtual 85, 3) := by decide +kernel
theorem dX5_referring_32 : decode cX5_referring 32 = .ok (.ifCond .ge 7, 3) := by decide +kernel
theorem dX5_referring_35 : decode cX5_referring 35 = .ok (.iconst 2, 1) := by decide +kernel
theorem dX5_referring_36 : decode cX5_referring 36 = .ok (.goto 4, 3) := by decide +kernel
theorem dX5_referring_39 : decode cX5_referring 39 = .ok (.iconst 0, 1) := by decide +kernel
theorem dX5_referring_40 : decode cX5_referring 40 = .ok (.putfield 71, 3) := by decide +kernel
theorem dX5_referring_43 : decode cX5_referring 43 = .ok (.iconst 0, 1) := by decide +kernel
theorem dX5_referring_44 : decode cX5_referring 44 = .ok (.istore_n 3, 1) := by decide +kernel
theorem dX5_referring_45 : decode cX5_referring 45 = .ok (.iconst 0, 1) := by decide +kernel
theorem dX5_referring_46 : decode cX5_referring 46 = .ok (.istore 4, 2) := by decide +kernel
theorem dX5_referring_48 : decode cX5_referring 48 = .ok (.iload 4, 2) := by decide +kernel
theorem dX5_referring_50 : decode cX5_referring 50 = .ok (.aload_n 0, 1) := by decide +kernel
theorem dX5_referring_51 : decode cX5_referring 51 = .ok (.getfield 82, 3) := by decide +kernel
theorem dX5_referring_54 : decode cX5_referring 54 = .ok (.if_icmp .ge 60, 3) := by decide +kernel
theorem dX5_referring_57 : decode cX5_referring 57 = .ok (.aload_n 0, 1) := by decide +kernel
theorem dX5_referring_58 : decode cX5_referring 58 = .ok (.getfield 71, 3) := by decide +kernel
theorem dX5_referring_61 : decode cX5_referring 61 = .ok (.ifCond .ne 53, 3) := by decide +kernel
theorem dX5_referring_64 : decode cX5_referring 64 = .ok (.iload_n 3, 1) := by decide +kernel
theorem dX5_referring_65 : decode cX5_referring 65 = .ok (.aload_n 0, 1) := by decide +kernel
theorem dX5_referring_66 : decode cX5_referring 66 = .ok (.getfield 13, 3) := by decide +kernel
theorem dX5_referring_69 : decode cX5_referring 69 = .ok (.iload 4, 2) := by decide +kernel
theorem dX5_referring_71 : decode cX5_referring 71 = .ok (.iaload, 1) := by decide +kernel
theorem dX5_referring_72 : decode cX5_referring 72 = .ok (.aload_n 0, 1) := by decide +kernel
theorem dX5_referring_73 : decode cX5_referring 73 = .ok (.getfield 29, 3) := by decide +kernel
theorem dX5_referring_76 : decode cX5_referring 76 = .ok (.iload_n 1, 1) := by decide +kernel
theorem dX5_referring_77 : decode cX5_referring 77 = .ok (.iaload, 1) := by decide +kernel
theorem dX5_referring_78 : decode cX5_referring 78 = .ok (.if_icmp .ne 27, 3) := by decide +kernel
theorem dX5_referring_81 : decode cX5_referring 81 = .ok (.aload_n 0, 1) := by decide +kernel
theorem dX5_referring_82 : decode cX5_referring 82 = .ok (.getfield 16, 3) := by decide +kernel
theorem dX5_referring_85 : decode cX5_referring 85 = .ok (.iconst 4, 1) := by decide +kernel
theorem dX5_referring_86 : decode cX5_referring 86 = .ok (.iload 4, 2) := by decide +kernel
theorem dX5_referring_88 : decode cX5_referring 88 = .ok (.imul, 1) := by decide +kernel
theorem dX5_referring_89 : decode cX5_referring 89 = .ok (.aload_n 0, 1) := by decide +kernel
theorem dX5_referring_90 : decode cX5_referring 90 = .ok (.getfield 32, 3) := by decide +kernel
theorem dX5_referring_93 : decode cX5_referring 93 = .ok (.iload_n 1, 1) := by decide +kernel
theorem dX5_referring_94 : decode cX5_referring 94 = .ok (.iaload, 1) := by decide +kernel
theorem dX5_referring_95 : decode cX5_referring 95 = .ok (.iadd, 1) := by decide +kernel
theorem dX5_referring_96 : decode cX5_referring 96 = .ok (.iaload, 1) := by decide +kernel
theorem dX5_referring_97 : decode cX5_referring 97 = .ok (.iload_n 2, 1) := by decide +kernel
theorem dX5_referring_98 : decode cX5_referring 98 = .ok (.if_icmp .ne 7, 3) := by decide +kernel
theorem dX5_referring_101 : decode cX5_referring 101 = .ok (.iconst 1, 1) := by decide +kernel
theorem dX5_referring_102 : decode cX5_referring 102 = .ok (.goto 4, 3) := by decide +kernel
theorem dX5_referring_105 : decode cX5_referring 105 = .ok (.iconst 0, 1) := by decide +kernel
theorem dX5_referring_106 : decode cX5_referring 106 = .ok (.iadd, 1) := by decide +kernel
theorem dX5_referring_107 : decode cX5_referring 107 = .ok (.istore_n 3, 1) := by decide +kernel
theorem dX5_referring_108 : decode cX5_referring 108 = .ok (.iinc 4 1, 3) := by decide +kernel
theorem dX5_referring_111 : decode cX5_referring 111 = .ok (.goto (-63), 3) := by decide +kernel
theorem dX5_referring_114 : decode cX5_referring 114 = .ok (.iload_n 3, 1) := by decide +kernel
theorem dX5_referring_115 : decode cX5_referring 115 = .ok (.ireturn, 1) := by decide +kernel
theorem dX5_reason_0 : decode cX5_reason 0 = .ok (.aload_n 0, 1) := by decide +kernel
theorem dX5_reason_1 : decode cX5_reason 1 = .ok (.iconst 0, 1) := by decide +kernel
theorem dX5_reason_2 : decode cX5_reason 2 = .ok (.putfield 71, 3) := by decide +kernel
theorem dX5_reason_5 : decode cX5_reason 5 = .ok (.aload_n 0, 1) := by decide +kernel
theorem dX5_reason_6 : decode cX5_reason 6 = .ok (.getfield 121, 3) := by decide +kernel
theorem dX5_reason_9 : decode cX5_reason 9 = .ok (.ireturn, 1) := by decide +kernel
theorem dJ9_min_7cf53_0 : decode cJ9_min_7cf53 0 = .ok (.iload_n 0, 1) := by decide +kernel
theorem dJ9_min_7cf53_1 : decode cJ9_min_7cf53 1 = .ok (.iload_n 1, 1) := by decide +kernel
theorem dJ9_min_7cf53_2 : decode cJ9_min_7cf53 2 = .ok (.if_icmp .gt 7, 3) := by decide +kernel
theorem dJ9_min_7cf53_5 : decode cJ9_min_7cf53 5 = .ok (.iload_n 0, 1) := by decide +kernel
theorem dJ9_min_7cf53_6 : decode cJ9_min_7cf53 6 = .ok (.goto 4, 3) := by decide +kernel
theorem dJ9_min_7cf53_9 : decode cJ9_min_7cf53 9 = .ok (.iload_n 1, 1) := by decide +kernel
theorem dJ9_min_7cf53_10 : decode cJ9_min_7cf53 10 = .ok (.ireturn, 1) := by decide +kernel
theorem dJ7_fill_53178_0 : decode cJ7_fill_53178 0 = .ok (.iconst 0, 1) := by decide +kernel
theorem dJ7_fill_53178_1 : decode cJ7_fill_53178 1 = .ok (.istore_n 2, 1) := by decide +kernel
theorem dJ7_fill_53178_2 : decode cJ7_fill_53178 2 = .ok (.aload_n 0, 1) := by decide +kernel
theorem dJ7_fill_53178_3 : decode cJ7_fill_53178 3 = .ok (.arraylength, 1) := by decide +kernel
theorem dJ7_fill_53178_4 : decode cJ7_fill_53178 4 = .ok (.istore_n 3, 1) := by decide +kernel
theorem dJ7_fill_53178_5 : decode cJ7_fill_53178 5 = .ok (.iload_n 2, 1) := by decide +kernel
theorem dJ7_fill_53178_6 : decode cJ7_fill_53178 6 = .ok (.iload_n 3, 1) := by decide +kernel
theorem dJ7_fill_53178_7 : decode cJ7_fill_53178 7 = .ok (.if_icmp .ge 13, 3) := by decide +kernel
theorem dJ7_fill_53178_10 : decode cJ7_fill_53178 10 = .ok (.aload_n 0, 1) := by decide +kernel
theorem dJ7_fill_53178_11 : decode cJ7_fill_53178 11 = .ok (.iload_n 2, 1) := by decide +kernel
theorem dJ7_fill_53178_12 : decode cJ7_fill_53178 12 = .ok (.iload_n 1, 1) := by decide +kernel
theorem dJ7_fill_53178_13 : decode cJ7_fill_53178 13 = .ok (.iastore, 1) := by decide +kernel
theorem dJ7_fill_53178_14 : decode cJ7_fill_53178 14 = .ok (.iinc 2 1, 3) := by decide +kernel
theorem dJ7_fill_53178_17 : decode cJ7_fill_53178 17 = .ok (.goto (-12), 3) := by decide +kernel
theorem dJ7_fill_53178_20 : decode cJ7_fill_53178 20 = .ok (.return_, 1) := by decide +kernel
theorem dJ7_copyOf_59c91_0 : decode cJ7_copyOf_59c91 0 = .ok (.iload_n 1, 1) := by decide +kernel
theorem dJ7_copyOf_59c91_1 : decode cJ7_copyOf_59c91 1 = .ok (.aload_n 0, 1) := by decide +kernel
theorem dJ7_copyOf_59c91_2 : decode cJ7_copyOf_59c91 2 = .ok (.arraylength, 1) := by decide +kernel
theorem dJ7_copyOf_59c91_3 : decode cJ7_copyOf_59c91 3 = .ok (.if_icmp .ne 11, 3) := by decide +kernel
theorem dJ7_copyOf_59c91_6 : decode cJ7_copyOf_59c91 6 = .ok (.aload_n 0, 1) := by decide +kernel
theorem dJ7_copyOf_59c91_7 : decode cJ7_copyOf_59c91 7 = .ok (.invokevirtual 316, 3) := by decide +kernel
theorem dJ7_copyOf_59c91_10 : decode cJ7_copyOf_59c91 10 = .ok (.checkcast 317, 3) := by decide +kernel
theorem dJ7_copyOf_59c91_13 : decode cJ7_copyOf_59c91 13 = .ok (.areturn, 1) := by decide +kernel
theorem dJ7_copyOf_59c91_14 : decode cJ7_copyOf_59c91 14 = .ok (.iload_n 1, 1) := by decide +kernel
theorem dJ7_copyOf_59c91_15 : decode cJ7_copyOf_59c91 15 = .ok (.newarray .int, 2) := by decide +kernel
theorem dJ7_copyOf_59c91_17 : decode cJ7_copyOf_59c91 17 = .ok (.astore_n 2, 1) := by decide +kernel
theorem dJ7_copyOf_59c91_18 : decode cJ7_copyOf_59c91 18 = .ok (.aload_n 0, 1) := by decide +kernel
theorem dJ7_copyOf_59c91_19 : decode cJ7_copyOf_59c91 19 = .ok (.iconst 0, 1) := by decide +kernel
theorem dJ7_copyOf_59c91_20 : decode cJ7_copyOf_59c91 20 = .ok (.aload_n 2, 1) := by decide +kernel
theorem dJ7_copyOf_59c91_21 : decode cJ7_copyOf_59c91 21 = .ok (.iconst 0, 1) := by decide +kernel
theorem dJ7_copyOf_59c91_22 : decode cJ7_copyOf_59c91 22 = .ok (.aload_n 0, 1) := by decide +kernel
theorem dJ7_copyOf_59c91_23 : decode cJ7_copyOf_59c91 23 = .ok (.arraylength, 1) := by decide +kernel
theorem dJ7_copyOf_59c91_24 : decode cJ7_copyOf_59c91 24 = .ok (.iload_n 1, 1) := by decide +kernel
theorem dJ7_copyOf_59c91_25 : decode cJ7_copyOf_59c91 25 = .ok (.invokestatic 304, 3) := by decide +kernel
theorem dJ7_copyOf_59c91_28 : decode cJ7_copyOf_59c91 28 = .ok (.invokestatic 150, 3) := by decide +kernel
theorem dJ7_copyOf_59c91_31 : decode cJ7_copyOf_59c91 31 = .ok (.aload_n 2, 1) := by decide +kernel
theorem dJ7_copyOf_59c91_32 : decode cJ7_copyOf_59c91 32 = .ok (.areturn, 1) := by decide +kernel
set_option maxRecDepth 20000 in
theorem ggL_table_X4_table : GoodIn wsL_table wsX4_table := goodIn_ca (goodIn_ca (goodIn_r _ [7, 8, 9, 10, 11, 6, 12, 13, 14, 15, 16, 17, 18, 19, 20, 21, 22, 23, 24, 25, 26, 27, 28, 29, 30, 31, 32, 33, 34, 35] (by decide +kernel) (by decide +kernel)) (goodIn_sub (fun _ h => List.mem_cons_of_mem _ (List.mem_append_left _ (List.mem_append_right _ h))) (by decide +kernel))) (goodIn_sub (fun _ h => List.mem_cons_of_mem _ (List.mem_append_right _ h)) (by decide +kernel))
set_option maxRecDepth 20000 in
theorem gL_table_X4_table : GoodIn wsL_table (wsV RL 7 RX4 yX4_table wsX4_table) := goodIn_app (goodIn_of _ (by decide +kernel)) ggL_table_X4_table
