theorem dX4_init_0 : decode cX4_init 0 = .ok (.aload_n 0, 1) := by decide +kernel
theorem dX4_init_1 : decode cX4_init 1 = .ok (.invokespecial 1, 3) := by decide +kernel
theorem dX4_init_4 : decode cX4_init 4 = .ok (.aload_n 0, 1) := by decide +kernel
theorem dX4_init_5 : decode cX4_init 5 = .ok (.iconst 4, 1) := by decide +kernel
theorem dX4_init_6 : decode cX4_init 6 = .ok (.newarray .int, 2) := by decide +kernel
theorem dX4_init_8 : decode cX4_init 8 = .ok (.putfield 9, 3) := by decide +kernel
theorem dX4_init_11 : decode cX4_init 11 = .ok (.aload_n 0, 1) := by decide +kernel
theorem dX4_init_12 : decode cX4_init 12 = .ok (.iconst 0, 1) := by decide +kernel
theorem dX4_init_13 : decode cX4_init 13 = .ok (.putfield 13, 3) := by decide +kernel
theorem dX4_init_16 : decode cX4_init 16 = .ok (.aload_n 0, 1) := by decide +kernel
theorem dX4_init_17 : decode cX4_init 17 = .ok (.bipush 6, 2) := by decide +kernel
theorem dX4_init_19 : decode cX4_init 19 = .ok (.anewarray 17, 3) := by decide +kernel
theorem dX4_init_22 : decode cX4_init 22 = .ok (.putfield 19, 3) := by decide +kernel
theorem dX4_init_25 : decode cX4_init 25 = .ok (.aload_n 0, 1) := by decide +kernel
theorem dX4_init_26 : decode cX4_init 26 = .ok (.iconst 0, 1) := by decide +kernel
theorem dX4_init_27 : decode cX4_init 27 = .ok (.putfield 23, 3) := by decide +kernel
theorem dX4_init_30 : decode cX4_init 30 = .ok (.aload_n 0, 1) := by decide +kernel
theorem dX4_init_31 : decode cX4_init 31 = .ok (.iconst 4, 1) := by decide +kernel
theorem dX4_init_32 : decode cX4_init 32 = .ok (.anewarray 26, 3) := by decide +kernel
theorem dX4_init_35 : decode cX4_init 35 = .ok (.putfield 28, 3) := by decide +kernel
theorem dX4_init_38 : decode cX4_init 38 = .ok (.aload_n 0, 1) := by decide +kernel
theorem dX4_init_39 : decode cX4_init 39 = .ok (.iconst 0, 1) := by decide +kernel
theorem dX4_init_40 : decode cX4_init 40 = .ok (.putfield 32, 3) := by decide +kernel
theorem dX4_init_43 : decode cX4_init 43 = .ok (.aload_n 0, 1) := by decide +kernel
theorem dX4_init_44 : decode cX4_init 44 = .ok (.iconst 4, 1) := by decide +kernel
theorem dX4_init_45 : decode cX4_init 45 = .ok (.anewarray 35, 3) := by decide +kernel
theorem dX4_init_48 : decode cX4_init 48 = .ok (.putfield 37, 3) := by decide +kernel
theorem dX4_init_51 : decode cX4_init 51 = .ok (.aload_n 0, 1) := by decide +kernel
theorem dX4_init_52 : decode cX4_init 52 = .ok (.iconst 0, 1) := by decide +kernel
theorem dX4_init_53 : decode cX4_init 53 = .ok (.putfield 41, 3) := by decide +kernel
theorem dX4_init_56 : decode cX4_init 56 = .ok (.aload_n 0, 1) := by decide +kernel
theorem dX4_init_57 : decode cX4_init 57 = .ok (.bipush 10, 2) := by decide +kernel
theorem dX4_init_59 : decode cX4_init 59 = .ok (.newarray .int, 2) := by decide +kernel
theorem dX4_init_61 : decode cX4_init 61 = .ok (.putfield 44, 3) := by decide +kernel
theorem dX4_init_64 : decode cX4_init 64 = .ok (.aload_n 0, 1) := by decide +kernel
theorem dX4_init_65 : decode cX4_init 65 = .ok (.iconst 0, 1) := by decide +kernel
theorem dX4_init_66 : decode cX4_init 66 = .ok (.putfield 47, 3) := by decide +kernel
theorem dX4_init_69 : decode cX4_init 69 = .ok (.aload_n 0, 1) := by decide +kernel
theorem dX4_init_70 : decode cX4_init 70 = .ok (.new 50, 3) := by decide +kernel
theorem dX4_init_73 : decode cX4_init 73 = .ok (.dup, 1) := by decide +kernel
theorem dX4_init_74 : decode cX4_init 74 = .ok (.invokespecial 52, 3) := by decide +kernel
theorem dX4_init_77 : decode cX4_init 77 = .ok (.putfield 53, 3) := by decide +kernel
theorem dX4_init_80 : decode cX4_init 80 = .ok (.aload_n 0, 1) := by decide +kernel
theorem dX4_init_81 : decode cX4_init 81 = .ok (.new 50, 3) := by decide +kernel
theorem dX4_init_84 : decode cX4_init 84 = .ok (.dup, 1) := by decide +kernel
theorem dX4_init_85 : decode cX4_init 85 = .ok (.invokespecial 52, 3) := by decide +kernel
theorem dX4_init_88 : decode cX4_init 88 = .ok (.putfield 57, 3) := by decide +kernel
theorem dX4_init_91 : decode cX4_init 91 = .ok (.aload_n 0, 1) := by decide +kernel
theorem dX4_init_92 : decode cX4_init 92 = .ok (.iconst 4, 1) := by decide +kernel
theorem dX4_init_93 : decode cX4_init 93 = .ok (.anewarray 50, 3) := by decide +kernel
theorem dX4_init_96 : decode cX4_init 96 = .ok (.putfield 60, 3) := by decide +kernel
theorem dX4_init_99 : decode cX4_init 99 = .ok (.aload_n 0, 1) := by decide +kernel
theorem dX4_init_100 : decode cX4_init 100 = .ok (.iconst 0, 1) := by decide +kernel
theorem dX4_init_101 : decode cX4_init 101 = .ok (.putfield 64, 3) := by decide +kernel
theorem dX4_init_104 : decode cX4_init 104 = .ok (.aload_n 0, 1) := by decide +kernel
theorem dX4_init_105 : decode cX4_init 105 = .ok (.bipush 24, 2) := by decide +kernel
theorem dX4_init_107 : decode cX4_init 107 = .ok (.newarray .boolean, 2) := by decide +kernel
theorem dX4_init_109 : decode cX4_init 109 = .ok (.putfield 67, 3) := by decide +kernel
theorem dX4_init_112 : decode cX4_init 112 = .ok (.aload_n 0, 1) := by decide +kernel
theorem dX4_init_113 : decode cX4_init 113 = .ok (.iconst 0, 1) := by decide +kernel
theorem dX4_init_114 : decode cX4_init 114 = .ok (.putfield 71, 3) := by decide +kernel
theorem dX4_init_117 : decode cX4_init 117 = .ok (.iconst 0, 1) := by decide +kernel
theorem dX4_init_118 : decode cX4_init 118 = .ok (.istore_n 1, 1) := by decide +kernel
theorem dX4_init_119 : decode cX4_init 119 = .ok (.iload_n 1, 1) := by decide +kernel
theorem dX4_init_120 : decode cX4_init 120 = .ok (.iconst 4, 1) := by decide +kernel
theorem dX4_init_121 : decode cX4_init 121 = .ok (.if_icmp .ge 22, 3) := by decide +kernel
theorem dX4_init_124 : decode cX4_init 124 = .ok (.aload_n 0, 1) := by decide +kernel
theorem dX4_init_125 : decode cX4_init 125 = .ok (.getfield 60, 3) := by decide +kernel
theorem dX4_init_128 : decode cX4_init 128 = .ok (.iload_n 1, 1) := by decide +kernel
theorem dX4_init_129 : decode cX4_init 129 = .ok (.new 50, 3) := by decide +kernel
theorem dX4_init_132 : decode cX4_init 132 = .ok (.dup, 1) := by decide +kernel
theorem dX4_init_133 : decode cX4_init 133 = .ok (.invokespecial 52, 3) := by decide +kernel
theorem dX4_init_136 : decode cX4_init 136 = .ok (.aastore, 1) := by decide +kernel
theorem dX4_init_137 : decode cX4_init 137 = .ok (.iinc 1 1, 3) := by decide +kernel
theorem dX4_init_140 : decode cX4_init 140 = .ok (.goto (-21), 3) := by decide +kernel
theorem dX4_init_143 : decode cX4_init 143 = .ok (.return_, 1) := by decide +kernel
set_option maxRecDepth 20000 in
theorem ggX4_table_X4_needArgument : GoodIn wsX4_table wsX4_needArgument := goodIn_ca (goodIn_r _ [6, 7, 8] (by decide +kernel) (by decide +kernel)) (goodIn_sub (fun _ h => List.mem_cons_of_mem _ (List.mem_append_left _ (List.mem_append_right _ h))) (by decide +kernel))
set_option maxRecDepth 20000 in
theorem gX4_table_X4_needArgument : GoodIn wsX4_table (va_wsS RX4 74 yX4_needArgument wsX4_needArgument) := goodIn_app (goodIn_of _ (by decide +kernel)) ggX4_table_X4_needArgument
set_option maxRecDepth 20000 in
theorem ggX4_table_X4_needElement : GoodIn wsX4_table wsX4_needElement := goodIn_ca (goodIn_r _ [11, 12, 13] (by decide +kernel) (by decide +kernel)) (goodIn_sub (fun _ h => List.mem_cons_of_mem _ (List.mem_append_right _ h)) (by decide +kernel))
set_option maxRecDepth 20000 in
theorem gX4_table_X4_needElement : GoodIn wsX4_table (va_wsS RX4 78 yX4_needElement wsX4_needElement) := goodIn_app (goodIn_of _ (by decide +kernel)) ggX4_table_X4_needElement
theorem dX4_table_0 : decode cX4_table 0 = .ok (.iload_n 1, 1) := by decide +kernel
theorem dX4_table_1 : decode cX4_table 1 = .ok (.iconst 2, 1) := by decide +kernel
theorem dX4_table_2 : decode cX4_table 2 = .ok (.if_icmp .lt 12, 3) := by decide +kernel
theorem dX4_table_5 : decode cX4_table 5 = .ok (.iload_n 1, 1) := by decide +kernel
theorem dX4_table_6 : decode cX4_table 6 = .ok (.iconst 4, 1) := by decide +kernel
theorem dX4_table_7 : decode cX4_table 7 = .ok (.if_icmp .gt 7, 3) := by decide +kernel
theorem dX4_table_10 : decode cX4_table 10 = .ok (.iconst 1, 1) := by decide +kernel
theorem dX4_table_11 : decode cX4_table 11 = .ok (.goto 4, 3) := by decide +kernel
theorem dX4_table_14 : decode cX4_table 14 = .ok (.iconst 0, 1) := by decide +kernel
theorem dX4_table_15 : decode cX4_table 15 = .ok (.invokestatic 74, 3) := by decide +kernel
theorem dX4_table_18 : decode cX4_table 18 = .ok (.aload_n 0, 1) := by decide +kernel
theorem dX4_table_19 : decode cX4_table 19 = .ok (.getfield 13, 3) := by decide +kernel
theorem dX4_table_22 : decode cX4_table 22 = .ok (.iconst 4, 1) := by decide +kernel
theorem dX4_table_23 : decode cX4_table 23 = .ok (.if_icmp .ge 7, 3) := by decide +kernel
theorem dX4_table_26 : decode cX4_table 26 = .ok (.iconst 1, 1) := by decide +kernel
theorem dX4_table_27 : decode cX4_table 27 = .ok (.goto 4, 3) := by decide +kernel
theorem dX4_table_30 : decode cX4_table 30 = .ok (.iconst 0, 1) := by decide +kernel
theorem dX4_table_31 : decode cX4_table 31 = .ok (.invokestatic 78, 3) := by decide +kernel
theorem dX4_table_34 : decode cX4_table 34 = .ok (.aload_n 0, 1) := by decide +kernel
theorem dX4_table_35 : decode cX4_table 35 = .ok (.getfield 9, 3) := by decide +kernel
theorem dX4_table_38 : decode cX4_table 38 = .ok (.aload_n 0, 1) := by decide +kernel
theorem dX4_table_39 : decode cX4_table 39 = .ok (.getfield 13, 3) := by decide +kernel
theorem dX4_table_42 : decode cX4_table 42 = .ok (.iload_n 1, 1) := by decide +kernel
theorem dX4_table_43 : decode cX4_table 43 = .ok (.iastore, 1) := by decide +kernel
theorem dX4_table_44 : decode cX4_table 44 = .ok (.aload_n 0, 1) := by decide +kernel
theorem dX4_table_45 : decode cX4_table 45 = .ok (.dup, 1) := by decide +kernel
theorem dX4_table_46 : decode cX4_table 46 = .ok (.getfield 13, 3) := by decide +kernel
theorem dX4_table_49 : decode cX4_table 49 = .ok (.iconst 1, 1) := by decide +kernel
theorem dX4_table_50 : decode cX4_table 50 = .ok (.iadd, 1) := by decide +kernel
theorem dX4_table_51 : decode cX4_table 51 = .ok (.putfield 13, 3) := by decide +kernel
theorem dX4_table_54 : decode cX4_table 54 = .ok (.aload_n 0, 1) := by decide +kernel
theorem dX4_table_55 : decode cX4_table 55 = .ok (.getfield 13, 3) := by decide +kernel
theorem dX4_table_58 : decode cX4_table 58 = .ok (.iconst 1, 1) := by decide +kernel
theorem dX4_table_59 : decode cX4_table 59 = .ok (.isub, 1) := by decide +kernel
theorem dX4_table_60 : decode cX4_table 60 = .ok (.ireturn, 1) := by decide +kernel
set_option maxRecDepth 20000 in
theorem ggX4_link_X4_isCellColumn : GoodIn wsX4_link wsX4_isCellColumn := goodIn_r _ [11, 12, 13, 14, 10, 15, 16, 17, 18, 19, 20, 21, 77, 78, 79, 80, 81, 82, 83, 84, 85, 86, 87, 88, 89, 90, 91, 92] (by decide +kernel) (by decide +kernel)
set_option maxRecDepth 20000 in
theorem gX4_link_X4_isCellColumn : GoodIn wsX4_link (wsV RX4 81 RX4 yX4_isCellColumn wsX4_isCellColumn) := goodIn_app (goodIn_of _ (by decide +kernel)) ggX4_link_X4_isCellColumn
set_option maxRecDepth 20000 in
theorem ggX4_link_X4_isTable : GoodIn wsX4_link wsX4_isTable := goodIn_r _ [20, 21, 77, 78, 79, 80, 81, 82, 83, 84, 85, 86, 87, 88, 89, 90, 91, 92] (by decide +kernel) (by decide +kernel)
set_option maxRecDepth 20000 in
theorem gX4_link_X4_isTable : GoodIn wsX4_link (wsV RX4 85 RX4 yX4_isTable wsX4_isTable) := goodIn_app (goodIn_of _ (by decide +kernel)) ggX4_link_X4_isTable
set_option maxRecDepth 20000 in
theorem ggX4_link_X4_needArgument : GoodIn wsX4_link wsX4_needArgument := goodIn_ca (goodIn_r _ [24, 25, 26] (by decide +kernel) (by decide +kernel)) (goodIn_sub (fun _ h => List.mem_cons_of_mem _ (List.mem_append_left _ (List.mem_append_left _ (List.mem_append_right _ h)))) (by decide +kernel))
set_option maxRecDepth 20000 in
theorem gX4_link_X4_needArgument : GoodIn wsX4_link (va_wsS RX4 74 yX4_needArgument wsX4_needArgument) := goodIn_app (goodIn_of _ (by decide +kernel)) ggX4_link_X4_needArgument
set_option maxRecDepth 20000 in
theorem ggX4_link_X4_needElement : GoodIn wsX4_link wsX4_needElement := goodIn_ca (goodIn_r _ [29, 30, 31] (by decide +kernel) (by decide +kernel)) (goodIn_sub (fun _ h => List.mem_cons_of_mem _ (List.mem_append_left _ (List.mem_append_right _ h))) (by decide +kernel))
set_option maxRecDepth 20000 in
theorem gX4_link_X4_needElement : GoodIn wsX4_link (va_wsS RX4 78 yX4_needElement wsX4_needElement) := goodIn_app (goodIn_of _ (by decide +kernel)) ggX4_link_X4_needElement
set_option maxRecDepth 20000 in
theorem ggX4_link_X1_init : GoodIn wsX4_link wsX1_init := goodIn_r _ [34, 35, 36, 37, 38, 39, 40, 41, 93, 94, 95, 96] (by decide +kernel) (by decide +kernel)
set_option maxRecDepth 20000 in
theorem gX4_link_X1_init : GoodIn wsX4_link (wsX1_init) := ggX4_link_X1_init
set_option maxRecDepth 20000 in
theorem ggX4_link_X1_isBroken : GoodIn wsX4_link wsX1_isBroken := goodIn_r _ [45, 46, 47, 48, 4, 49, 38, 39, 50, 51, 52, 53, 54, 55, 56, 57, 58, 59, 60, 61, 62, 63, 64, 40, 65, 66, 67, 68, 69, 93, 94, 95, 96, 97, 98] (by decide +kernel) (by decide +kernel)
set_option maxRecDepth 20000 in
theorem gX4_link_X1_isBroken : GoodIn wsX4_link (wsV RX4 92 RX1 yX1_isBroken wsX1_isBroken) := goodIn_app (goodIn_of _ (by decide +kernel)) ggX4_link_X1_isBroken
set_option maxRecDepth 20000 in
theorem ggX4_link_X4_refuseIf : GoodIn wsX4_link wsX4_refuseIf := goodIn_ca (goodIn_r _ [73, 74, 75, 76, 77, 78, 79, 80, 81, 82, 83, 84, 85, 86, 87, 88, 89, 90, 91, 92] (by decide +kernel) (by decide +kernel)) (goodIn_sub (fun _ h => List.mem_cons_of_mem _ (List.mem_append_right _ h)) (by decide +kernel))
set_option maxRecDepth 20000 in
theorem gX4_link_X4_refuseIf : GoodIn wsX4_link (wsV RX4 96 RX4 yX4_refuseIf wsX4_refuseIf) := goodIn_app (goodIn_of _ (by decide +kernel)) ggX4_link_X4_refuseIf
theorem dX4_link_0 : decode cX4_link 0 = .ok (.aload_n 0, 1) := by decide +kernel
theorem dX4_link_1 : decode cX4_link 1 = .ok (.iload_n 1, 1) := by decide +kernel
theorem dX4_link_2 : decode cX4_link 2 = .ok (.iload_n 2, 1) := by decide +kernel
theorem dX4_link_3 : decode cX4_link 3 = .ok (.invokevirtual 81, 3) := by decide +kernel
theorem dX4_link_6 : decode cX4_link 6 = .ok (.ifCond .eq 15, 3) := by decide +kernel
theorem dX4_link_9 : decode cX4_link 9 = .ok (.aload_n 0, 1) := by decide +kernel
theorem dX4_link_10 : decode cX4_link 10 = .ok (.iload_n 3, 1) := by decide +kernel
theorem dX4_link_11 : decode cX4_link 11 = .ok (.invokevirtual 85, 3) := by decide +kernel
theorem dX4_link_14 : decode cX4_link 14 = .ok (.ifCond .eq 7, 3) := by decide +kernel
theorem dX4_link_17 : decode cX4_link 17 = .ok (.iconst 1, 1) := by decide +kernel
theorem dX4_link_18 : decode cX4_link 18 = .ok (.goto 4, 3) := by decide +kernel
theorem dX4_link_21 : decode cX4_link 21 = .ok (.iconst 0, 1) := by decide +kernel
theorem dX4_link_22 : decode cX4_link 22 = .ok (.invokestatic 74, 3) := by decide +kernel
theorem dX4_link_25 : decode cX4_link 25 = .ok (.iload 4, 2) := by decide +kernel
theorem dX4_link_27 : decode cX4_link 27 = .ok (.ifCond .eq 15, 3) := by decide +kernel
theorem dX4_link_30 : decode cX4_link 30 = .ok (.iload 4, 2) := by decide +kernel
theorem dX4_link_32 : decode cX4_link 32 = .ok (.iconst 1, 1) := by decide +kernel
theorem dX4_link_33 : decode cX4_link 33 = .ok (.if_icmp .eq 9, 3) := by decide +kernel
theorem dX4_link_36 : decode cX4_link 36 = .ok (.iload 4, 2) := by decide +kernel
theorem dX4_link_38 : decode cX4_link 38 = .ok (.iconst 2, 1) := by decide +kernel
theorem dX4_link_39 : decode cX4_link 39 = .ok (.if_icmp .ne 7, 3) := by decide +kernel
theorem dX4_link_42 : decode cX4_link 42 = .ok (.iconst 1, 1) := by decide +kernel
theorem dX4_link_43 : decode cX4_link 43 = .ok (.goto 4, 3) := by decide +kernel
theorem dX4_link_46 : decode cX4_link 46 = .ok (.iconst 0, 1) := by decide +kernel
theorem dX4_link_47 : decode cX4_link 47 = .ok (.invokestatic 74, 3) := by decide +kernel
theorem dX4_link_50 : decode cX4_link 50 = .ok (.aload_n 0, 1) := by decide +kernel
theorem dX4_link_51 : decode cX4_link 51 = .ok (.getfield 23, 3) := by decide +kernel
theorem dX4_link_54 : decode cX4_link 54 = .ok (.bipush 6, 2) := by decide +kernel
theorem dX4_link_56 : decode cX4_link 56 = .ok (.if_icmp .ge 7, 3) := by decide +kernel
theorem dX4_link_59 : decode cX4_link 59 = .ok (.iconst 1, 1) := by decide +kernel
theorem dX4_link_60 : decode cX4_link 60 = .ok (.goto 4, 3) := by decide +kernel
theorem dX4_link_63 : decode cX4_link 63 = .ok (.iconst 0, 1) := by decide +kernel
theorem dX4_link_64 : decode cX4_link 64 = .ok (.invokestatic 78, 3) := by decide +kernel
theorem dX4_link_67 : decode cX4_link 67 = .ok (.new 17, 3) := by decide +kernel
theorem dX4_link_70 : decode cX4_link 70 = .ok (.dup, 1) := by decide +kernel
theorem dX4_link_71 : decode cX4_link 71 = .ok (.iload_n 1, 1) := by decide +kernel
theorem dX4_link_72 : decode cX4_link 72 = .ok (.iload_n 2, 1) := by decide +kernel
theorem dX4_link_73 : decode cX4_link 73 = .ok (.iload_n 3, 1) := by decide +kernel
theorem dX4_link_74 : decode cX4_link 74 = .ok (.iload 4, 2) := by decide +kernel
theorem dX4_link_76 : decode cX4_link 76 = .ok (.invokespecial 89, 3) := by decide +kernel
theorem dX4_link_79 : decode cX4_link 79 = .ok (.astore 5, 2) := by decide +kernel
theorem dX4_link_81 : decode cX4_link 81 = .ok (.aload_n 0, 1) := by decide +kernel
theorem dX4_link_82 : decode cX4_link 82 = .ok (.aload 5, 2) := by decide +kernel
theorem dX4_link_84 : decode cX4_link 84 = .ok (.aload_n 0, 1) := by decide +kernel
theorem dX4_link_85 : decode cX4_link 85 = .ok (.getfield 53, 3) := by decide +kernel
theorem dX4_link_88 : decode cX4_link 88 = .ok (.invokevirtual 92, 3) := by decide +kernel
theorem dX4_link_91 : decode cX4_link 91 = .ok (.sipush 400, 3) := by decide +kernel
theorem dX4_link_94 : decode cX4_link 94 = .ok (.aload_n 0, 1) := by decide +kernel
theorem dX4_link_95 : decode cX4_link 95 = .ok (.getfield 23, 3) := by decide +kernel
theorem dX4_link_98 : decode cX4_link 98 = .ok (.iadd, 1) := by decide +kernel
theorem dX4_link_99 : decode cX4_link 99 = .ok (.invokevirtual 96, 3) := by decide +kernel
theorem dX4_link_102 : decode cX4_link 102 = .ok (.aload_n 0, 1) := by decide +kernel
theorem dX4_link_103 : decode cX4_link 103 = .ok (.getfield 19, 3) := by decide +kernel
theorem dX4_link_106 : decode cX4_link 106 = .ok (.aload_n 0, 1) := by decide +kernel
theorem dX4_link_107 : decode cX4_link 107 = .ok (.getfield 23, 3) := by decide +kernel
theorem dX4_link_110 : decode cX4_link 110 = .ok (.aload 5, 2) := by decide +kernel
theorem dX4_link_112 : decode cX4_link 112 = .ok (.aastore, 1) := by decide +kernel
theorem dX4_link_113 : decode cX4_link 113 = .ok (.aload_n 0, 1) := by decide +kernel
theorem dX4_link_114 : decode cX4_link 114 = .ok (.dup, 1) := by decide +kernel
theorem dX4_link_115 : decode cX4_link 115 = .ok (.getfield 23, 3) := by decide +kernel
theorem dX4_link_118 : decode cX4_link 118 = .ok (.iconst 1, 1) := by decide +kernel
theorem dX4_link_119 : decode cX4_link 119 = .ok (.iadd, 1) := by decide +kernel
theorem dX4_link_120 : decode cX4_link 120 = .ok (.putfield 23, 3) := by decide +kernel
theorem dX4_link_123 : decode cX4_link 123 = .ok (.aload_n 0, 1) := by decide +kernel
theorem dX4_link_124 : decode cX4_link 124 = .ok (.getfield 23, 3) := by decide +kernel
theorem dX4_link_127 : decode cX4_link 127 = .ok (.iconst 1, 1) := by decide +kernel
theorem dX4_link_128 : decode cX4_link 128 = .ok (.isub, 1) := by decide +kernel
theorem dX4_link_129 : decode cX4_link 129 = .ok (.ireturn, 1) := by decide +kernel
set_option maxRecDepth 20000 in
theorem ggX4_single_X4_isCellColumn : GoodIn wsX4_single wsX4_isCellColumn := goodIn_r _ [11, 12, 13, 14, 10, 15, 16, 17, 18, 19, 20, 21, 66, 67, 68, 69, 70, 71, 72, 73, 74, 75, 76, 77, 78, 79, 80, 81] (by decide +kernel) (by decide +kernel)
set_option maxRecDepth 20000 in
theorem gX4_single_X4_isCellColumn : GoodIn wsX4_single (wsV RX4 81 RX4 yX4_isCellColumn wsX4_isCellColumn) := goodIn_app (goodIn_of _ (by decide +kernel)) ggX4_single_X4_isCellColumn
set_option maxRecDepth 20000 in
theorem ggX4_single_X4_needArgument : GoodIn wsX4_single wsX4_needArgument := goodIn_ca (goodIn_r _ [24, 25, 26] (by decide +kernel) (by decide +kernel)) (goodIn_sub (fun _ h => List.mem_cons_of_mem _ (List.mem_append_left _ (List.mem_append_left _ (List.mem_append_right _ h)))) (by decide +kernel))
set_option maxRecDepth 20000 in
theorem gX4_single_X4_needArgument : GoodIn wsX4_single (va_wsS RX4 74 yX4_needArgument wsX4_needArgument) := goodIn_app (goodIn_of _ (by decide +kernel)) ggX4_single_X4_needArgument
set_option maxRecDepth 20000 in
theorem ggX4_single_X4_needElement : GoodIn wsX4_single wsX4_needElement := goodIn_ca (goodIn_r _ [29, 30, 31] (by decide +kernel) (by decide +kernel)) (goodIn_sub (fun _ h => List.mem_cons_of_mem _ (List.mem_append_left _ (List.mem_append_right _ h))) (by decide +kernel))
set_option maxRecDepth 20000 in
theorem gX4_single_X4_needElement : GoodIn wsX4_single (va_wsS RX4 78 yX4_needElement wsX4_needElement) := goodIn_app (goodIn_of _ (by decide +kernel)) ggX4_single_X4_needElement
set_option maxRecDepth 20000 in
theorem ggX4_single_X3_init : GoodIn wsX4_single wsX3_init := goodIn_r _ [34, 35, 36, 37, 38, 39, 82, 83] (by decide +kernel) (by decide +kernel)
set_option maxRecDepth 20000 in
theorem gX4_single_X3_init : GoodIn wsX4_single (wsX3_init) := ggX4_single_X3_init
set_option maxRecDepth 20000 in
theorem ggX4_single_X3_isBroken : GoodIn wsX4_single wsX3_isBroken := goodIn_r _ [43, 38, 39, 44, 45, 46, 47, 48, 49, 50, 51, 52, 53, 54, 55, 56, 57, 58, 82, 83, 84, 85] (by decide +kernel) (by decide +kernel)
set_option maxRecDepth 20000 in
theorem gX4_single_X3_isBroken : GoodIn wsX4_single (wsV RX4 103 RX3 yX3_isBroken wsX3_isBroken) := goodIn_app (goodIn_of _ (by decide +kernel)) ggX4_single_X3_isBroken
set_option maxRecDepth 20000 in
theorem ggX4_single_X4_refuseIf : GoodIn wsX4_single wsX4_refuseIf := goodIn_ca (goodIn_r _ [62, 63, 64, 65, 66, 67, 68, 69, 70, 71, 72, 73, 74, 75, 76, 77, 78, 79, 80, 81] (by decide +kernel) (by decide +kernel)) (goodIn_sub (fun _ h => List.mem_cons_of_mem _ (List.mem_append_right _ h)) (by decide +kernel))
set_option maxRecDepth 20000 in
theorem gX4_single_X4_refuseIf : GoodIn wsX4_single (wsV RX4 96 RX4 yX4_refuseIf wsX4_refuseIf) := goodIn_app (goodIn_of _ (by decide +kernel)) ggX4_single_X4_refuseIf
theorem dX4_single_0 : decode cX4_single 0 = .ok (.aload_n 0, 1) := by decide +kernel
theorem dX4_single_1 : decode cX4_single 1 = .ok (.iload_n 1, 1) := by decide +kernel
theorem dX4_single_2 : decode cX4_single 2 = .ok (.iload_n 2, 1) := by decide +kernel
theorem dX4_single_3 : decode cX4_single 3 = .ok (.invokevirtual 81, 3) := by decide +kernel
theorem dX4_single_6 : decode cX4_single 6 = .ok (.invokestatic 74, 3) := by decide +kernel
theorem dX4_single_9 : decode cX4_single 9 = .ok (.aload_n 0, 1) := by decide +kernel
theorem dX4_single_10 : decode cX4_single 10 = .ok (.getfield 32, 3) := by decide +kernel
theorem dX4_single_13 : decode cX4_single 13 = .ok (.iconst 4, 1) := by decide +kernel
theorem dX4_single_14 : decode cX4_single 14 = .ok (.if_icmp .ge 7, 3) := by decide +kernel
theorem dX4_single_17 : decode cX4_single 17 = .ok (.iconst 1, 1) := by decide +kernel
theorem dX4_single_18 : decode cX4_single 18 = .ok (.goto 4, 3) := by decide +kernel
theorem dX4_single_21 : decode cX4_single 21 = .ok (.iconst 0, 1) := by decide +kernel
theorem dX4_single_22 : decode cX4_single 22 = .ok (.invokestatic 78, 3) := by decide +kernel
theorem dX4_single_25 : decode cX4_single 25 = .ok (.new 26, 3) := by decide +kernel
theorem dX4_single_28 : decode cX4_single 28 = .ok (.dup, 1) := by decide +kernel
theorem dX4_single_29 : decode cX4_single 29 = .ok (.iload_n 1, 1) := by decide +kernel
theorem dX4_single_30 : decode cX4_single 30 = .ok (.iload_n 2, 1) := by decide +kernel
theorem dX4_single_31 : decode cX4_single 31 = .ok (.invokespecial 100, 3) := by decide +kernel
theorem dX4_single_34 : decode cX4_single 34 = .ok (.astore_n 3, 1) := by decide +kernel
theorem dX4_single_35 : decode cX4_single 35 = .ok (.aload_n 0, 1) := by decide +kernel
theorem dX4_single_36 : decode cX4_single 36 = .ok (.aload_n 3, 1) := by decide +kernel
theorem dX4_single_37 : decode cX4_single 37 = .ok (.aload_n 0, 1) := by decide +kernel
theorem dX4_single_38 : decode cX4_single 38 = .ok (.getfield 53, 3) := by decide +kernel
theorem dX4_single_41 : decode cX4_single 41 = .ok (.invokevirtual 103, 3) := by decide +kernel
theorem dX4_single_44 : decode cX4_single 44 = .ok (.sipush 300, 3) := by decide +kernel
theorem dX4_single_47 : decode cX4_single 47 = .ok (.aload_n 0, 1) := by decide +kernel
theorem dX4_single_48 : decode cX4_single 48 = .ok (.getfield 32, 3) := by decide +kernel
theorem dX4_single_51 : decode cX4_single 51 = .ok (.iadd, 1) := by decide +kernel
theorem dX4_single_52 : decode cX4_single 52 = .ok (.invokevirtual 96, 3) := by decide +kernel
theorem dX4_single_55 : decode cX4_single 55 = .ok (.aload_n 0, 1) := by decide +kernel
theorem dX4_single_56 : decode cX4_single 56 = .ok (.getfield 28, 3) := by decide +kernel
theorem dX4_single_59 : decode cX4_single 59 = .ok (.aload_n 0, 1) := by decide +kernel
theorem dX4_single_60 : decode cX4_single 60 = .ok (.getfield 32, 3) := by decide +kernel
theorem dX4_single_63 : decode cX4_single 63 = .ok (.aload_n 3, 1) := by decide +kernel
theorem dX4_single_64 : decode cX4_single 64 = .ok (.aastore, 1) := by decide +kernel
theorem dX4_single_65 : decode cX4_single 65 = .ok (.aload_n 0, 1) := by decide +kernel
theorem dX4_single_66 : decode cX4_single 66 = .ok (.dup, 1) := by decide +kernel
theorem dX4_single_67 : decode cX4_single 67 = .ok (.getfield 32, 3) := by decide +kernel
theorem dX4_single_70 : decode cX4_single 70 = .ok (.iconst 1, 1) := by decide +kernel
theorem dX4_single_71 : decode cX4_single 71 = .ok (.iadd, 1) := by decide +kernel
theorem dX4_single_72 : decode cX4_single 72 = .ok (.putfield 32, 3) := by decide +kernel
theorem dX4_single_75 : decode cX4_single 75 = .ok (.aload_n 0, 1) := by decide +kernel
theorem dX4_single_76 : decode cX4_single 76 = .ok (.getfield 32, 3) := by decide +kernel
theorem dX4_single_79 : decode cX4_single 79 = .ok (.iconst 1, 1) := by decide +kernel
theorem dX4_single_80 : decode cX4_single 80 = .ok (.isub, 1) := by decide +kernel
theorem dX4_single_81 : decode cX4_single 81 = .ok (.ireturn, 1) := by decide +kernel
set_option maxRecDepth 20000 in
theorem ggX4_word_X0_isWord : GoodIn wsX4_word wsX0_isWord := goodIn_r _ [6] (by decide +kernel) (by decide +kernel)
set_option maxRecDepth 20000 in
theorem gX4_word_X0_isWord : GoodIn wsX4_word (va_wsS RX4 104 yX0_isWord wsX0_isWord) := goodIn_app (goodIn_of _ (by decide +kernel)) ggX4_word_X0_isWord
set_option maxRecDepth 20000 in
theorem ggX4_word_X4_needArgument : GoodIn wsX4_word wsX4_needArgument := goodIn_ca (goodIn_r _ [10, 11, 12] (by decide +kernel) (by decide +kernel)) (goodIn_sub (fun _ h => List.mem_cons_of_mem _ (List.mem_append_left _ (List.mem_append_right _ h))) (by decide +kernel))
set_option maxRecDepth 20000 in
theorem gX4_word_X4_needArgument : GoodIn wsX4_word (va_wsS RX4 74 yX4_needArgument wsX4_needArgument) := goodIn_app (goodIn_of _ (by decide +kernel)) ggX4_word_X4_needArgument
set_option maxRecDepth 20000 in
theorem ggX4_word_X4_needElement : GoodIn wsX4_word wsX4_needElement := goodIn_ca (goodIn_r _ [15, 16, 17] (by decide +kernel) (by decide +kernel)) (goodIn_sub (fun _ h => List.mem_cons_of_mem _ (List.mem_append_right _ h)) (by decide +kernel))
set_option maxRecDepth 20000 in
theorem gX4_word_X4_needElement : GoodIn wsX4_word (va_wsS RX4 78 yX4_needElement wsX4_needElement) := goodIn_app (goodIn_of _ (by decide +kernel)) ggX4_word_X4_needElement
theorem dX4_word_0 : decode cX4_word 0 = .ok (.iload_n 1, 1) := by decide +kernel
theorem dX4_word_1 : decode cX4_word 1 = .ok (.invokestatic 104, 3) := by decide +kernel
theorem dX4_word_4 : decode cX4_word 4 = .ok (.invokestatic 74, 3) := by decide +kernel
theorem dX4_word_7 : decode cX4_word 7 = .ok (.aload_n 0, 1) := by decide +kernel
theorem dX4_word_8 : decode cX4_word 8 = .ok (.getfield 47, 3) := by decide +kernel
theorem dX4_word_11 : decode cX4_word 11 = .ok (.bipush 10, 2) := by decide +kernel
theorem dX4_word_13 : decode cX4_word 13 = .ok (.if_icmp .ge 7, 3) := by decide +kernel
theorem dX4_word_16 : decode cX4_word 16 = .ok (.iconst 1, 1) := by decide +kernel
theorem dX4_word_17 : decode cX4_word 17 = .ok (.goto 4, 3) := by decide +kernel
theorem dX4_word_20 : decode cX4_word 20 = .ok (.iconst 0, 1) := by decide +kernel
theorem dX4_word_21 : decode cX4_word 21 = .ok (.invokestatic 78, 3) := by decide +kernel
theorem dX4_word_24 : decode cX4_word 24 = .ok (.aload_n 0, 1) := by decide +kernel
theorem dX4_word_25 : decode cX4_word 25 = .ok (.getfield 44, 3) := by decide +kernel
theorem dX4_word_28 : decode cX4_word 28 = .ok (.aload_n 0, 1) := by decide +kernel
theorem dX4_word_29 : decode cX4_word 29 = .ok (.getfield 47, 3) := by decide +kernel
theorem dX4_word_32 : decode cX4_word 32 = .ok (.iload_n 1, 1) := by decide +kernel
theorem dX4_word_33 : decode cX4_word 33 = .ok (.iastore, 1) := by decide +kernel
theorem dX4_word_34 : decode cX4_word 34 = .ok (.aload_n 0, 1) := by decide +kernel
theorem dX4_word_35 : decode cX4_word 35 = .ok (.dup, 1) := by decide +kernel
theorem dX4_word_36 : decode cX4_word 36 = .ok (.getfield 47, 3) := by decide +kernel
theorem dX4_word_39 : decode cX4_word 39 = .ok (.iconst 1, 1) := by decide +kernel
theorem dX4_word_40 : decode cX4_word 40 = .ok (.iadd, 1) := by decide +kernel
theorem dX4_word_41 : decode cX4_word 41 = .ok (.putfield 47, 3) := by decide +kernel
theorem dX4_word_44 : decode cX4_word 44 = .ok (.aload_n 0, 1) := by decide +kernel
theorem dX4_word_45 : decode cX4_word 45 = .ok (.getfield 47, 3) := by decide +kernel
theorem dX4_word_48 : decode cX4_word 48 = .ok (.ireturn, 1) := by decide +kernel
set_option maxRecDepth 20000 in
theorem ggX4_check_X4_isTable : GoodIn wsX4_check wsX4_isTable := goodIn_r _ [14, 15, 93, 94, 95, 96, 97, 98, 99, 100, 101, 102, 103, 104, 105, 106, 107, 108] (by decide +kernel) (by decide +kernel)
set_option maxRecDepth 20000 in
theorem gX4_check_X4_isTable : GoodIn wsX4_check (wsV RX4 85 RX4 yX4_isTable wsX4_isTable) := goodIn_app (goodIn_of _ (by decide +kernel)) ggX4_check_X4_isTable
set_option maxRecDepth 20000 in
theorem ggX4_check_X4_needArgument : GoodIn wsX4_check wsX4_needArgument := goodIn_ca (goodIn_r _ [18, 19, 20] (by decide +kernel) (by decide +kernel)) (goodIn_sub (fun _ h => List.mem_cons_of_mem _ (List.mem_append_left _ (List.mem_append_left _ (List.mem_append_right _ h)))) (by decide +kernel))
set_option maxRecDepth 20000 in
theorem gX4_check_X4_needArgument : GoodIn wsX4_check (va_wsS RX4 74 yX4_needArgument wsX4_needArgument) := goodIn_app (goodIn_of _ (by decide +kernel)) ggX4_check_X4_needArgument
set_option maxRecDepth 20000 in
theorem ggX4_check_J7_copyOf_59c91 : GoodIn wsX4_check wsJ7_copyOf_59c91 := goodIn_r _ [24, 25, 26, 27, 28, 29, 30, 31, 32, 33, 34, 35, 36, 37, 38, 39] (by decide +kernel) (by decide +kernel)
set_option maxRecDepth 20000 in
theorem gX4_check_J7_copyOf_59c91 : GoodIn wsX4_check (va_wsS RX4 107 yJ7_copyOf_59c91 wsJ7_copyOf_59c91) := goodIn_app (goodIn_of _ (by decide +kernel)) ggX4_check_J7_copyOf_59c91
set_option maxRecDepth 20000 in
theorem ggX4_check_X0_areRight : GoodIn wsX4_check wsX0_areRight := goodIn_r _ [42, 43, 44, 7, 45] (by decide +kernel) (by decide +kernel)
set_option maxRecDepth 20000 in
theorem gX4_check_X0_areRight : GoodIn wsX4_check (va_wsS RX4 113 yX0_areRight wsX0_areRight) := goodIn_app (goodIn_of _ (by decide +kernel)) ggX4_check_X0_areRight
set_option maxRecDepth 20000 in
theorem ggX4_check_X4_needElement : GoodIn wsX4_check wsX4_needElement := goodIn_ca (goodIn_r _ [48, 49, 50] (by decide +kernel) (by decide +kernel)) (goodIn_sub (fun _ h => List.mem_cons_of_mem _ (List.mem_append_left _ (List.mem_append_right _ h))) (by decide +kernel))
set_option maxRecDepth 20000 in
theorem gX4_check_X4_needElement : GoodIn wsX4_check (va_wsS RX4 78 yX4_needElement wsX4_needElement) := goodIn_app (goodIn_of _ (by decide +kernel)) ggX4_check_X4_needElement
set_option maxRecDepth 20000 in
theorem ggX4_check_X0_init : GoodIn wsX4_check wsX0_init := goodIn_r _ [53, 54, 55, 56, 57, 58, 31, 59, 109, 110, 111] (by decide +kernel) (by decide +kernel)
set_option maxRecDepth 20000 in
theorem gX4_check_X0_init : GoodIn wsX4_check (wsX0_init) := ggX4_check_X0_init
set_option maxRecDepth 20000 in
theorem ggX4_check_X0_isBroken : GoodIn wsX4_check wsX0_isBroken := goodIn_r _ [63, 57, 64, 65, 66, 67, 68, 69, 70, 71, 72, 7, 73, 58, 59, 43, 44, 45, 74, 75, 76, 77, 78, 79, 80, 81, 82, 83, 84, 85, 109, 110, 111, 112, 113] (by decide +kernel) (by decide +kernel)
set_option maxRecDepth 20000 in
theorem gX4_check_X0_isBroken : GoodIn wsX4_check (wsV RX4 120 RX0 yX0_isBroken wsX0_isBroken) := goodIn_app (goodIn_of _ (by decide +kernel)) ggX4_check_X0_isBroken
set_option maxRecDepth 20000 in
theorem ggX4_check_X4_refuseIf : GoodIn wsX4_check wsX4_refuseIf := goodIn_ca (goodIn_r _ [89, 90, 91, 92, 93, 94, 95, 96, 97, 98, 99, 100, 101, 102, 103, 104, 105, 106, 107, 108] (by decide +kernel) (by decide +kernel)) (goodIn_sub (fun _ h => List.mem_cons_of_mem _ (List.mem_append_right _ h)) (by decide +kernel))
set_option maxRecDepth 20000 in
theorem gX4_check_X4_refuseIf : GoodIn wsX4_check (wsV RX4 96 RX4 yX4_refuseIf wsX4_refuseIf) := goodIn_app (goodIn_of _ (by decide +kernel)) ggX4_check_X4_refuseIf
theorem dX4_check_0 : decode cX4_check 0 = .ok (.aload_n 0, 1) := by decide +kernel
theorem dX4_check_1 : decode cX4_check 1 = .ok (.iload_n 1, 1) := by decide +kernel
theorem dX4_check_2 : decode cX4_check 2 = .ok (.invokevirtual 85, 3) := by decide +kernel
theorem dX4_check_5 : decode cX4_check 5 = .ok (.invokestatic 74, 3) := by decide +kernel
theorem dX4_check_8 : decode cX4_check 8 = .ok (.aload_n 0, 1) := by decide +kernel
theorem dX4_check_9 : decode cX4_check 9 = .ok (.getfield 44, 3) := by decide +kernel
theorem dX4_check_12 : decode cX4_check 12 = .ok (.aload_n 0, 1) := by decide +kernel
theorem dX4_check_13 : decode cX4_check 13 = .ok (.getfield 47, 3) := by decide +kernel
theorem dX4_check_16 : decode cX4_check 16 = .ok (.invokestatic 107, 3) := by decide +kernel
theorem dX4_check_19 : decode cX4_check 19 = .ok (.astore_n 2, 1) := by decide +kernel
theorem dX4_check_20 : decode cX4_check 20 = .ok (.aload_n 0, 1) := by decide +kernel
theorem dX4_check_21 : decode cX4_check 21 = .ok (.iconst 0, 1) := by decide +kernel
theorem dX4_check_22 : decode cX4_check 22 = .ok (.putfield 47, 3) := by decide +kernel
theorem dX4_check_25 : decode cX4_check 25 = .ok (.aload_n 2, 1) := by decide +kernel
theorem dX4_check_26 : decode cX4_check 26 = .ok (.aload_n 0, 1) := by decide +kernel
theorem dX4_check_27 : decode cX4_check 27 = .ok (.getfield 9, 3) := by decide +kernel
theorem dX4_check_30 : decode cX4_check 30 = .ok (.iload_n 1, 1) := by decide +kernel
theorem dX4_check_31 : decode cX4_check 31 = .ok (.iaload, 1) := by decide +kernel
theorem dX4_check_32 : decode cX4_check 32 = .ok (.invokestatic 113, 3) := by decide +kernel
theorem dX4_check_35 : decode cX4_check 35 = .ok (.invokestatic 74, 3) := by decide +kernel
theorem dX4_check_38 : decode cX4_check 38 = .ok (.aload_n 0, 1) := by decide +kernel
theorem dX4_check_39 : decode cX4_check 39 = .ok (.getfield 41, 3) := by decide +kernel
theorem dX4_check_42 : decode cX4_check 42 = .ok (.iconst 4, 1) := by decide +kernel
theorem dX4_check_43 : decode cX4_check 43 = .ok (.if_icmp .ge 7, 3) := by decide +kernel
theorem dX4_check_46 : decode cX4_check 46 = .ok (.iconst 1, 1) := by decide +kernel
theorem dX4_check_47 : decode cX4_check 47 = .ok (.goto 4, 3) := by decide +kernel
theorem dX4_check_50 : decode cX4_check 50 = .ok (.iconst 0, 1) := by decide +kernel
theorem dX4_check_51 : decode cX4_check 51 = .ok (.invokestatic 78, 3) := by decide +kernel
theorem dX4_check_54 : decode cX4_check 54 = .ok (.new 35, 3) := by decide +kernel
theorem dX4_check_57 : decode cX4_check 57 = .ok (.dup, 1) := by decide +kernel
theorem dX4_check_58 : decode cX4_check 58 = .ok (.iload_n 1, 1) := by decide +kernel
theorem dX4_check_59 : decode cX4_check 59 = .ok (.aload_n 2, 1) := by decide +kernel
theorem dX4_check_60 : decode cX4_check 60 = .ok (.invokespecial 117, 3) := by decide +kernel
theorem dX4_check_63 : decode cX4_check 63 = .ok (.astore_n 3, 1) := by decide +kernel
theorem dX4_check_64 : decode cX4_check 64 = .ok (.aload_n 0, 1) := by decide +kernel
theorem dX4_check_65 : decode cX4_check 65 = .ok (.aload_n 3, 1) := by decide +kernel
theorem dX4_check_66 : decode cX4_check 66 = .ok (.aload_n 0, 1) := by decide +kernel
theorem dX4_check_67 : decode cX4_check 67 = .ok (.getfield 53, 3) := by decide +kernel
theorem dX4_check_70 : decode cX4_check 70 = .ok (.invokevirtual 120, 3) := by decide +kernel
theorem dX4_check_73 : decode cX4_check 73 = .ok (.sipush 500, 3) := by decide +kernel
theorem dX4_check_76 : decode cX4_check 76 = .ok (.aload_n 0, 1) := by decide +kernel
theorem dX4_check_77 : decode cX4_check 77 = .ok (.getfield 41, 3) := by decide +kernel
theorem dX4_check_80 : decode cX4_check 80 = .ok (.iadd, 1) := by decide +kernel
theorem dX4_check_81 : decode cX4_check 81 = .ok (.invokevirtual 96, 3) := by decide +kernel
theorem dX4_check_84 : decode cX4_check 84 = .ok (.aload_n 0, 1) := by decide +kernel
theorem dX4_check_85 : decode cX4_check 85 = .ok (.getfield 37, 3) := by decide +kernel
theorem dX4_check_88 : decode cX4_check 88 = .ok (.aload_n 0, 1) := by decide +kernel
theorem dX4_check_89 : decode cX4_check 89 = .ok (.getfield 41, 3) := by decide +kernel
theorem dX4_check_92 : decode cX4_check 92 = .ok (.aload_n 3, 1) := by decide +kernel
theorem dX4_check_93 : decode cX4_check 93 = .ok (.aastore, 1) := by decide +kernel
theorem dX4_check_94 : decode cX4_check 94 = .ok (.aload_n 0, 1) := by decide +kernel
theorem dX4_check_95 : decode cX4_check 95 = .ok (.dup, 1) := by decide +kernel
theorem dX4_check_96 : decode cX4_check 96 = .ok (.getfield 41, 3) := by decide +kernel
theorem dX4_check_99 : decode cX4_check 99 = .ok (.iconst 1, 1) := by decide +kernel
theorem dX4_check_100 : decode cX4_check 100 = .ok (.iadd, 1) := by decide +kernel
theorem dX4_check_101 : decode cX4_check 101 = .ok (.putfield 41, 3) := by decide +kernel
theorem dX4_check_104 : decode cX4_check 104 = .ok (.aload_n 0, 1) := by decide +kernel
theorem dX4_check_105 : decode cX4_check 105 = .ok (.getfield 41, 3) := by decide +kernel
theorem dX4_check_108 : decode cX4_check 108 = .ok (.iconst 1, 1) := by decide +kernel
theorem dX4_check_109 : decode cX4_check 109 = .ok (.isub, 1) := by decide +kernel
theorem dX4_check_110 : decode cX4_check 110 = .ok (.ireturn, 1) := by decide +kernel
set_option maxRecDepth 20000 in
theorem ggX4_insert_X4_isTable : GoodIn wsX4_insert wsX4_isTable := goodIn_r _ [7, 8, 132, 133, 134, 135, 136, 137, 138, 139, 140, 141, 142, 143, 144, 145, 146, 147] (by decide +kernel) (by decide +kernel)
set_option maxRecDepth 20000 in
theorem gX4_insert_X4_isTable : GoodIn wsX4_insert (wsV RX4 85 RX4 yX4_isTable wsX4_isTable) := goodIn_app (goodIn_of _ (by decide +kernel)) ggX4_insert_X4_isTable
set_option maxRecDepth 20000 in
theorem ggX4_insert_X4_needArgument : GoodIn wsX4_insert wsX4_needArgument := goodIn_ca (goodIn_r _ [11, 12, 13] (by decide +kernel) (by decide +kernel)) (goodIn_sub (fun _ h => List.mem_cons_of_mem _ (List.mem_append_left _ (List.mem_append_left _ (List.mem_append_right _ h)))) (by decide +kernel))
set_option maxRecDepth 20000 in
theorem gX4_insert_X4_needArgument : GoodIn wsX4_insert (va_wsS RX4 74 yX4_needArgument wsX4_needArgument) := goodIn_app (goodIn_of _ (by decide +kernel)) ggX4_insert_X4_needArgument
set_option maxRecDepth 20000 in
theorem ggX4_insert_X2_freePlace : GoodIn wsX4_insert wsX2_freePlace := goodIn_r _ [18, 19, 148, 149] (by decide +kernel) (by decide +kernel)
set_option maxRecDepth 20000 in
theorem gX4_insert_X2_freePlace : GoodIn wsX4_insert (wsV RX4 121 RX2 yX2_freePlace wsX2_freePlace) := goodIn_app (goodIn_of _ (by decide +kernel)) ggX4_insert_X2_freePlace
set_option maxRecDepth 20000 in
theorem ggX4_insert_X4_needElement : GoodIn wsX4_insert wsX4_needElement := goodIn_ca (goodIn_r _ [22, 23, 24] (by decide +kernel) (by decide +kernel)) (goodIn_sub (fun _ h => List.mem_cons_of_mem _ (List.mem_append_left _ (List.mem_append_right _ h))) (by decide +kernel))
set_option maxRecDepth 20000 in
theorem gX4_insert_X4_needElement : GoodIn wsX4_insert (va_wsS RX4 78 yX4_needElement wsX4_needElement) := goodIn_app (goodIn_of _ (by decide +kernel)) ggX4_insert_X4_needElement
set_option maxRecDepth 20000 in
theorem ggX4_insert_X2_become : GoodIn wsX4_insert wsX2_become := goodIn_r _ [28, 19, 29, 30, 31, 32, 33, 148, 149] (by decide +kernel) (by decide +kernel)
set_option maxRecDepth 20000 in
theorem gX4_insert_X2_become : GoodIn wsX4_insert (wsV RX4 125 RX2 yX2_become wsX2_become) := goodIn_app (goodIn_of _ (by decide +kernel)) ggX4_insert_X2_become
set_option maxRecDepth 20000 in
theorem ggX4_insert_X2_add : GoodIn wsX4_insert wsX2_add := goodIn_r _ [37, 19, 148, 149] (by decide +kernel) (by decide +kernel)
set_option maxRecDepth 20000 in
theorem gX4_insert_X2_add : GoodIn wsX4_insert (wsV RX4 129 RX2 yX2_add wsX2_add) := goodIn_app (goodIn_of _ (by decide +kernel)) ggX4_insert_X2_add
set_option maxRecDepth 20000 in
theorem ggX4_insert_X2_put : GoodIn wsX4_insert wsX2_put := goodIn_r _ [41, 33, 148, 149] (by decide +kernel) (by decide +kernel)
set_option maxRecDepth 20000 in
theorem gX4_insert_X2_put : GoodIn wsX4_insert (wsV RX4 132 RX2 yX2_put wsX2_put) := goodIn_app (goodIn_of _ (by decide +kernel)) ggX4_insert_X2_put
set_option maxRecDepth 20000 in
theorem ggX4_insert_X4_settle : GoodIn wsX4_insert wsX4_settle := goodIn_ca (goodIn_r _ [45, 2, 1, 46, 47, 48, 6, 49, 8, 50, 51, 52, 53, 54, 55, 56, 57, 58, 17, 59, 19, 60, 61, 62, 63, 33, 64, 65, 66, 67, 68, 69, 70, 71, 72, 73, 74, 75, 76, 77, 78, 79, 80, 81, 82, 83, 84, 85, 86, 87, 88, 89, 90, 91, 92, 93, 94, 95, 96, 97, 98, 99, 100, 101, 102, 103, 104, 105, 106, 107, 108, 109, 110, 111, 112, 113, 114, 115, 116, 117, 118, 119, 120, 121, 122, 123, 124, 125, 126, 127, 128, 129, 130, 131, 25, 26, 27, 28, 29, 30, 31, 32, 132, 133, 134, 135, 136, 137, 138, 139, 140, 141, 142, 143, 144, 145, 146, 147, 148, 149, 150, 151, 152, 153, 154, 155, 156, 157, 158] (by decide +kernel) (by decide +kernel)) (goodIn_sub (fun _ h => List.mem_cons_of_mem _ (List.mem_append_right _ h)) (by decide +kernel))
set_option maxRecDepth 20000 in
theorem gX4_insert_X4_settle : GoodIn wsX4_insert (wsV RX4 136 RX4 yX4_settle wsX4_settle) := goodIn_app (goodIn_of _ (by decide +kernel)) ggX4_insert_X4_settle
theorem dX4_insert_0 : decode cX4_insert 0 = .ok (.aload_n 0, 1) := by decide +kernel
theorem dX4_insert_1 : decode cX4_insert 1 = .ok (.iload_n 1, 1) := by decide +kernel
theorem dX4_insert_2 : decode cX4_insert 2 = .ok (.invokevirtual 85, 3) := by decide +kernel
theorem dX4_insert_5 : decode cX4_insert 5 = .ok (.ifCond .eq 11, 3) := by decide +kernel
theorem dX4_insert_8 : decode cX4_insert 8 = .ok (.iload_n 2, 1) := by decide +kernel
theorem dX4_insert_9 : decode cX4_insert 9 = .ok (.ifCond .eq 7, 3) := by decide +kernel
theorem dX4_insert_12 : decode cX4_insert 12 = .ok (.iconst 1, 1) := by decide +kernel
theorem dX4_insert_13 : decode cX4_insert 13 = .ok (.goto 4, 3) := by decide +kernel
theorem dX4_insert_16 : decode cX4_insert 16 = .ok (.iconst 0, 1) := by decide +kernel
theorem dX4_insert_17 : decode cX4_insert 17 = .ok (.invokestatic 74, 3) := by decide +kernel
theorem dX4_insert_20 : decode cX4_insert 20 = .ok (.aload_n 0, 1) := by decide +kernel
theorem dX4_insert_21 : decode cX4_insert 21 = .ok (.getfield 53, 3) := by decide +kernel
theorem dX4_insert_24 : decode cX4_insert 24 = .ok (.invokevirtual 121, 3) := by decide +kernel
theorem dX4_insert_27 : decode cX4_insert 27 = .ok (.istore 6, 2) := by decide +kernel
theorem dX4_insert_29 : decode cX4_insert 29 = .ok (.iload 6, 2) := by decide +kernel
theorem dX4_insert_31 : decode cX4_insert 31 = .ok (.iconst (-1), 1) := by decide +kernel
theorem dX4_insert_32 : decode cX4_insert 32 = .ok (.if_icmp .eq 7, 3) := by decide +kernel
theorem dX4_insert_35 : decode cX4_insert 35 = .ok (.iconst 1, 1) := by decide +kernel
theorem dX4_insert_36 : decode cX4_insert 36 = .ok (.goto 4, 3) := by decide +kernel
theorem dX4_insert_39 : decode cX4_insert 39 = .ok (.iconst 0, 1) := by decide +kernel
theorem dX4_insert_40 : decode cX4_insert 40 = .ok (.invokestatic 78, 3) := by decide +kernel
theorem dX4_insert_43 : decode cX4_insert 43 = .ok (.aload_n 0, 1) := by decide +kernel
theorem dX4_insert_44 : decode cX4_insert 44 = .ok (.getfield 57, 3) := by decide +kernel
theorem dX4_insert_47 : decode cX4_insert 47 = .ok (.aload_n 0, 1) := by decide +kernel
theorem dX4_insert_48 : decode cX4_insert 48 = .ok (.getfield 53, 3) := by decide +kernel
theorem dX4_insert_51 : decode cX4_insert 51 = .ok (.invokevirtual 125, 3) := by decide +kernel
theorem dX4_insert_54 : decode cX4_insert 54 = .ok (.aload_n 0, 1) := by decide +kernel
theorem dX4_insert_55 : decode cX4_insert 55 = .ok (.getfield 57, 3) := by decide +kernel
theorem dX4_insert_58 : decode cX4_insert 58 = .ok (.iload 6, 2) := by decide +kernel
theorem dX4_insert_60 : decode cX4_insert 60 = .ok (.iload_n 1, 1) := by decide +kernel
theorem dX4_insert_61 : decode cX4_insert 61 = .ok (.invokevirtual 129, 3) := by decide +kernel
theorem dX4_insert_64 : decode cX4_insert 64 = .ok (.aload_n 0, 1) := by decide +kernel
theorem dX4_insert_65 : decode cX4_insert 65 = .ok (.getfield 57, 3) := by decide +kernel
theorem dX4_insert_68 : decode cX4_insert 68 = .ok (.iload 6, 2) := by decide +kernel
theorem dX4_insert_70 : decode cX4_insert 70 = .ok (.iconst 0, 1) := by decide +kernel
theorem dX4_insert_71 : decode cX4_insert 71 = .ok (.iload_n 2, 1) := by decide +kernel
theorem dX4_insert_72 : decode cX4_insert 72 = .ok (.invokevirtual 132, 3) := by decide +kernel
theorem dX4_insert_75 : decode cX4_insert 75 = .ok (.aload_n 0, 1) := by decide +kernel
theorem dX4_insert_76 : decode cX4_insert 76 = .ok (.getfield 57, 3) := by decide +kernel
theorem dX4_insert_79 : decode cX4_insert 79 = .ok (.iload 6, 2) := by decide +kernel
theorem dX4_insert_81 : decode cX4_insert 81 = .ok (.iconst 1, 1) := by decide +kernel
theorem dX4_insert_82 : decode cX4_insert 82 = .ok (.iload_n 3, 1) := by decide +kernel
theorem dX4_insert_83 : decode cX4_insert 83 = .ok (.invokevirtual 132, 3) := by decide +kernel
theorem dX4_insert_86 : decode cX4_insert 86 = .ok (.aload_n 0, 1) := by decide +kernel
theorem dX4_insert_87 : decode cX4_insert 87 = .ok (.getfield 57, 3) := by decide +kernel
theorem dX4_insert_90 : decode cX4_insert 90 = .ok (.iload 6, 2) := by decide +kernel
theorem dX4_insert_92 : decode cX4_insert 92 = .ok (.iconst 2, 1) := by decide +kernel
theorem dX4_insert_93 : decode cX4_insert 93 = .ok (.iload 4, 2) := by decide +kernel
theorem dX4_insert_95 : decode cX4_insert 95 = .ok (.invokevirtual 132, 3) := by decide +kernel
theorem dX4_insert_98 : decode cX4_insert 98 = .ok (.aload_n 0, 1) := by decide +kernel
theorem dX4_insert_99 : decode cX4_insert 99 = .ok (.getfield 57, 3) := by decide +kernel
theorem dX4_insert_102 : decode cX4_insert 102 = .ok (.iload 6, 2) := by decide +kernel
theorem dX4_insert_104 : decode cX4_insert 104 = .ok (.iconst 3, 1) := by decide +kernel
theorem dX4_insert_105 : decode cX4_insert 105 = .ok (.iload 5, 2) := by decide +kernel
theorem dX4_insert_107 : decode cX4_insert 107 = .ok (.invokevirtual 132, 3) := by decide +kernel
theorem dX4_insert_110 : decode cX4_insert 110 = .ok (.aload_n 0, 1) := by decide +kernel
theorem dX4_insert_111 : decode cX4_insert 111 = .ok (.iconst (-1), 1) := by decide +kernel
theorem dX4_insert_112 : decode cX4_insert 112 = .ok (.invokevirtual 136, 3) := by decide +kernel
theorem dX4_insert_115 : decode cX4_insert 115 = .ok (.return_, 1) := by decide +kernel
set_option maxRecDepth 20000 in
theorem ggX4_delete_X4_isColumn : GoodIn wsX4_delete wsX4_isColumn := goodIn_r _ [7, 8, 9, 10, 11, 6, 12, 13, 154, 155, 156, 157, 158, 159, 160, 161, 162, 163, 164, 165, 166, 167, 168, 169] (by decide +kernel) (by decide +kernel)
set_option maxRecDepth 20000 in
theorem gX4_delete_X4_isColumn : GoodIn wsX4_delete (wsV RX4 140 RX4 yX4_isColumn wsX4_isColumn) := goodIn_app (goodIn_of _ (by decide +kernel)) ggX4_delete_X4_isColumn
set_option maxRecDepth 20000 in
theorem ggX4_delete_X4_needArgument : GoodIn wsX4_delete wsX4_needArgument := goodIn_ca (goodIn_r _ [16, 17, 18] (by decide +kernel) (by decide +kernel)) (goodIn_sub (fun _ h => List.mem_cons_of_mem _ (List.mem_append_left _ (List.mem_append_right _ h))) (by decide +kernel))
set_option maxRecDepth 20000 in
theorem gX4_delete_X4_needArgument : GoodIn wsX4_delete (va_wsS RX4 74 yX4_needArgument wsX4_needArgument) := goodIn_app (goodIn_of _ (by decide +kernel)) ggX4_delete_X4_needArgument
set_option maxRecDepth 20000 in
theorem ggX4_delete_X4_markGoing : GoodIn wsX4_delete wsX4_markGoing := goodIn_r _ [22, 23, 2, 24, 25, 26, 27, 28, 29, 30, 31, 32, 33, 34, 154, 155, 156, 157, 158, 159, 160, 161, 162, 163, 164, 165, 166, 167, 168, 169, 170, 171] (by decide +kernel) (by decide +kernel)
set_option maxRecDepth 20000 in
theorem gX4_delete_X4_markGoing : GoodIn wsX4_delete (wsV RX4 143 RX4 yX4_markGoing wsX4_markGoing) := goodIn_app (goodIn_of _ (by decide +kernel)) ggX4_delete_X4_markGoing
set_option maxRecDepth 20000 in
theorem ggX4_delete_X4_spreadGoing : GoodIn wsX4_delete wsX4_spreadGoing := goodIn_r _ [38, 39, 40, 41, 23, 42, 43, 44, 6, 45, 2, 46, 47, 48, 49, 50, 51, 52, 53, 54, 55, 56, 57, 58, 25, 26, 27, 28, 29, 59, 31, 32, 33, 34, 60, 61, 62, 63, 64, 154, 155, 156, 157, 158, 159, 160, 161, 162, 163, 164, 165, 166, 167, 168, 169, 172, 173, 174, 175, 170, 171] (by decide +kernel) (by decide +kernel)
set_option maxRecDepth 20000 in
theorem gX4_delete_X4_spreadGoing : GoodIn wsX4_delete (wsV RX4 146 RX4 yX4_spreadGoing wsX4_spreadGoing) := goodIn_app (goodIn_of _ (by decide +kernel)) ggX4_delete_X4_spreadGoing
set_option maxRecDepth 20000 in
theorem ggX4_delete_X2_become : GoodIn wsX4_delete wsX2_become := goodIn_r _ [68, 29, 69, 70, 71, 72, 34, 170, 171] (by decide +kernel) (by decide +kernel)
set_option maxRecDepth 20000 in
theorem gX4_delete_X2_become : GoodIn wsX4_delete (wsV RX4 125 RX2 yX2_become wsX2_become) := goodIn_app (goodIn_of _ (by decide +kernel)) ggX4_delete_X2_become
set_option maxRecDepth 20000 in
theorem ggX4_delete_X4_removeGoing : GoodIn wsX4_delete wsX4_removeGoing := goodIn_r _ [76, 23, 1, 77, 78, 79, 27, 80, 29, 154, 155, 156, 157, 158, 159, 160, 161, 162, 163, 164, 165, 166, 167, 168, 169, 170, 171] (by decide +kernel) (by decide +kernel)
set_option maxRecDepth 20000 in
theorem gX4_delete_X4_removeGoing : GoodIn wsX4_delete (wsV RX4 150 RX4 yX4_removeGoing wsX4_removeGoing) := goodIn_app (goodIn_of _ (by decide +kernel)) ggX4_delete_X4_removeGoing
set_option maxRecDepth 20000 in
theorem ggX4_delete_X4_loosenFromGoing : GoodIn wsX4_delete wsX4_loosenFromGoing := goodIn_r _ [84, 39, 23, 40, 41, 1, 85, 42, 43, 44, 6, 45, 2, 46, 47, 48, 49, 50, 51, 52, 53, 54, 55, 56, 57, 58, 25, 26, 27, 28, 29, 59, 31, 32, 33, 34, 60, 61, 62, 63, 64, 86, 87, 88, 89, 154, 155, 156, 157, 158, 159, 160, 161, 162, 163, 164, 165, 166, 167, 168, 169, 172, 173, 174, 175, 170, 171] (by decide +kernel) (by decide +kernel)
set_option maxRecDepth 20000 in
theorem gX4_delete_X4_loosenFromGoing : GoodIn wsX4_delete (wsV RX4 153 RX4 yX4_loosenFromGoing wsX4_loosenFromGoing) := goodIn_app (goodIn_of _ (by decide +kernel)) ggX4_delete_X4_loosenFromGoing
set_option maxRecDepth 20000 in
theorem ggX4_delete_X4_settle : GoodIn wsX4_delete wsX4_settle := goodIn_ca (goodIn_r _ [93, 1, 2, 94, 95, 96, 6, 97, 13, 98, 99, 39, 40, 100, 101, 102, 103, 104, 27, 105, 29, 64, 31, 32, 33, 34, 106, 107, 108, 109, 110, 111, 112, 113, 114, 115, 116, 117, 118, 119, 120, 49, 121, 53, 54, 55, 56, 57, 52, 58, 25, 26, 28, 59, 122, 47, 48, 50, 51, 60, 61, 62, 63, 123, 124, 125, 126, 127, 128, 129, 130, 131, 132, 133, 134, 135, 136, 137, 138, 139, 140, 141, 142, 143, 144, 145, 146, 147, 148, 149, 150, 151, 152, 153, 65, 66, 67, 68, 69, 70, 71, 72, 154, 155, 156, 157, 158, 159, 160, 161, 162, 163, 164, 165, 166, 167, 168, 169, 170, 171, 176, 177, 172, 173, 174, 175, 178, 179, 180] (by decide +kernel) (by decide +kernel)) (goodIn_sub (fun _ h => List.mem_cons_of_mem _ (List.mem_append_right _ h)) (by decide +kernel))
set_option maxRecDepth 20000 in
theorem gX4_delete_X4_settle : GoodIn wsX4_delete (wsV RX4 136 RX4 yX4_settle wsX4_settle) := goodIn_app (goodIn_of _ (by decide +kernel)) ggX4_delete_X4_settle
theorem dX4_delete_0 : decode cX4_delete 0 = .ok (.aload_n 0, 1) := by decide +kernel
theorem dX4_delete_1 : decode cX4_delete 1 = .ok (.iload_n 1, 1) := by decide +kernel
theorem dX4_delete_2 : decode cX4_delete 2 = .ok (.iload_n 2, 1) := by decide +kernel
theorem dX4_delete_3 : decode cX4_delete 3 = .ok (.invokevirtual 140, 3) := by decide +kernel
theorem dX4_delete_6 : decode cX4_delete 6 = .ok (.invokestatic 74, 3) := by decide +kernel
theorem dX4_delete_9 : decode cX4_delete 9 = .ok (.aload_n 0, 1) := by decide +kernel
theorem dX4_delete_10 : decode cX4_delete 10 = .ok (.iload_n 1, 1) := by decide +kernel
theorem dX4_delete_11 : decode cX4_delete 11 = .ok (.iload_n 2, 1) := by decide +kernel
theorem dX4_delete_12 : decode cX4_delete 12 = .ok (.iload_n 3, 1) := by decide +kernel
theorem dX4_delete_13 : decode cX4_delete 13 = .ok (.invokevirtual 143, 3) := by decide +kernel
theorem dX4_delete_16 : decode cX4_delete 16 = .ok (.iconst 1, 1) := by decide +kernel
theorem dX4_delete_17 : decode cX4_delete 17 = .ok (.istore 4, 2) := by decide +kernel
theorem dX4_delete_19 : decode cX4_delete 19 = .ok (.iconst 0, 1) := by decide +kernel
theorem dX4_delete_20 : decode cX4_delete 20 = .ok (.istore 5, 2) := by decide +kernel
theorem dX4_delete_22 : decode cX4_delete 22 = .ok (.iload 4, 2) := by decide +kernel
theorem dX4_delete_24 : decode cX4_delete 24 = .ok (.ifCond .eq 22, 3) := by decide +kernel
theorem dX4_delete_27 : decode cX4_delete 27 = .ok (.iload 5, 2) := by decide +kernel
theorem dX4_delete_29 : decode cX4_delete 29 = .ok (.bipush 24, 2) := by decide +kernel
theorem dX4_delete_31 : decode cX4_delete 31 = .ok (.if_icmp .ge 15, 3) := by decide +kernel
theorem dX4_delete_34 : decode cX4_delete 34 = .ok (.aload_n 0, 1) := by decide +kernel
theorem dX4_delete_35 : decode cX4_delete 35 = .ok (.invokevirtual 146, 3) := by decide +kernel
theorem dX4_delete_38 : decode cX4_delete 38 = .ok (.istore 4, 2) := by decide +kernel
theorem dX4_delete_40 : decode cX4_delete 40 = .ok (.iinc 5 1, 3) := by decide +kernel
theorem dX4_delete_43 : decode cX4_delete 43 = .ok (.goto (-21), 3) := by decide +kernel
theorem dX4_delete_46 : decode cX4_delete 46 = .ok (.aload_n 0, 1) := by decide +kernel
theorem dX4_delete_47 : decode cX4_delete 47 = .ok (.getfield 57, 3) := by decide +kernel
theorem dX4_delete_50 : decode cX4_delete 50 = .ok (.aload_n 0, 1) := by decide +kernel
theorem dX4_delete_51 : decode cX4_delete 51 = .ok (.getfield 53, 3) := by decide +kernel
theorem dX4_delete_54 : decode cX4_delete 54 = .ok (.invokevirtual 125, 3) := by decide +kernel
theorem dX4_delete_57 : decode cX4_delete 57 = .ok (.aload_n 0, 1) := by decide +kernel
theorem dX4_delete_58 : decode cX4_delete 58 = .ok (.invokevirtual 150, 3) := by decide +kernel
theorem dX4_delete_61 : decode cX4_delete 61 = .ok (.istore 5, 2) := by decide +kernel
theorem dX4_delete_63 : decode cX4_delete 63 = .ok (.aload_n 0, 1) := by decide +kernel
theorem dX4_delete_64 : decode cX4_delete 64 = .ok (.aload_n 0, 1) := by decide +kernel
theorem dX4_delete_65 : decode cX4_delete 65 = .ok (.invokevirtual 153, 3) := by decide +kernel
theorem dX4_delete_68 : decode cX4_delete 68 = .ok (.invokevirtual 136, 3) := by decide +kernel
theorem dX4_delete_71 : decode cX4_delete 71 = .ok (.iload 5, 2) := by decide +kernel
theorem dX4_delete_73 : decode cX4_delete 73 = .ok (.ireturn, 1) := by decide +kernel
set_option maxRecDepth 20000 in
theorem ggX4_update_X4_isColumn : GoodIn wsX4_update wsX4_isColumn := goodIn_r _ [7, 8, 9, 10, 11, 6, 12, 13, 138, 139, 140, 141, 142, 143, 144, 145, 146, 147, 148, 149, 150, 151, 152, 153] (by decide +kernel) (by decide +kernel)
set_option maxRecDepth 20000 in
theorem gX4_update_X4_isColumn : GoodIn wsX4_update (wsV RX4 140 RX4 yX4_isColumn wsX4_isColumn) := goodIn_app (goodIn_of _ (by decide +kernel)) ggX4_update_X4_isColumn
set_option maxRecDepth 20000 in
theorem ggX4_update_X4_needArgument : GoodIn wsX4_update wsX4_needArgument := goodIn_ca (goodIn_r _ [16, 17, 18] (by decide +kernel) (by decide +kernel)) (goodIn_sub (fun _ h => List.mem_cons_of_mem _ (List.mem_append_left _ (List.mem_append_left _ (List.mem_append_right _ h)))) (by decide +kernel))
set_option maxRecDepth 20000 in
theorem gX4_update_X4_needArgument : GoodIn wsX4_update (va_wsS RX4 74 yX4_needArgument wsX4_needArgument) := goodIn_app (goodIn_of _ (by decide +kernel)) ggX4_update_X4_needArgument
set_option maxRecDepth 20000 in
theorem ggX4_update_X2_find : GoodIn wsX4_update wsX2_find := goodIn_r _ [23, 24, 25, 26, 27, 22, 28, 29, 154, 155] (by decide +kernel) (by decide +kernel)
set_option maxRecDepth 20000 in
theorem gX4_update_X2_find : GoodIn wsX4_update (wsV RX4 156 RX2 yX2_find wsX2_find) := goodIn_app (goodIn_of _ (by decide +kernel)) ggX4_update_X2_find
set_option maxRecDepth 20000 in
theorem ggX4_update_X4_needElement : GoodIn wsX4_update wsX4_needElement := goodIn_ca (goodIn_r _ [32, 33, 34] (by decide +kernel) (by decide +kernel)) (goodIn_sub (fun _ h => List.mem_cons_of_mem _ (List.mem_append_left _ (List.mem_append_right _ h))) (by decide +kernel))
set_option maxRecDepth 20000 in
theorem gX4_update_X4_needElement : GoodIn wsX4_update (va_wsS RX4 78 yX4_needElement wsX4_needElement) := goodIn_app (goodIn_of _ (by decide +kernel)) ggX4_update_X4_needElement
set_option maxRecDepth 20000 in
theorem ggX4_update_X2_at : GoodIn wsX4_update wsX2_at := goodIn_r _ [28, 29, 154, 155] (by decide +kernel) (by decide +kernel)
set_option maxRecDepth 20000 in
theorem gX4_update_X2_at : GoodIn wsX4_update (wsV RX4 160 RX2 yX2_at wsX2_at) := goodIn_app (goodIn_of _ (by decide +kernel)) ggX4_update_X2_at
set_option maxRecDepth 20000 in
theorem ggX4_update_X2_become : GoodIn wsX4_update wsX2_become := goodIn_r _ [39, 24, 40, 41, 42, 43, 29, 154, 155] (by decide +kernel) (by decide +kernel)
set_option maxRecDepth 20000 in
theorem gX4_update_X2_become : GoodIn wsX4_update (wsV RX4 125 RX2 yX2_become wsX2_become) := goodIn_app (goodIn_of _ (by decide +kernel)) ggX4_update_X2_become
set_option maxRecDepth 20000 in
theorem ggX4_update_X2_put : GoodIn wsX4_update wsX2_put := goodIn_r _ [47, 29, 154, 155] (by decide +kernel) (by decide +kernel)
set_option maxRecDepth 20000 in
theorem gX4_update_X2_put : GoodIn wsX4_update (wsV RX4 132 RX2 yX2_put wsX2_put) := goodIn_app (goodIn_of _ (by decide +kernel)) ggX4_update_X2_put
set_option maxRecDepth 20000 in
theorem ggX4_update_X4_passOnKey : GoodIn wsX4_update wsX4_passOnKey := goodIn_r _ [51, 52, 53, 1, 54, 2, 55, 56, 57, 58, 59, 60, 61, 62, 63, 64, 65, 66, 67, 68, 69, 70, 22, 71, 24, 72, 26, 27, 28, 29, 73, 20, 21, 23, 25, 44, 45, 46, 47, 138, 139, 140, 141, 142, 143, 144, 145, 146, 147, 148, 149, 150, 151, 152, 153, 156, 157, 158, 159, 154, 155] (by decide +kernel) (by decide +kernel)
set_option maxRecDepth 20000 in
theorem gX4_update_X4_passOnKey : GoodIn wsX4_update (wsV RX4 163 RX4 yX4_passOnKey wsX4_passOnKey) := goodIn_app (goodIn_of _ (by decide +kernel)) ggX4_update_X4_passOnKey
set_option maxRecDepth 20000 in
theorem ggX4_update_X4_settle : GoodIn wsX4_update wsX4_settle := goodIn_ca (goodIn_r _ [77, 2, 1, 78, 79, 80, 6, 81, 13, 82, 83, 52, 53, 84, 85, 86, 87, 88, 22, 89, 24, 25, 26, 27, 28, 29, 90, 91, 92, 93, 94, 95, 96, 97, 98, 99, 100, 101, 102, 103, 104, 59, 105, 63, 64, 65, 66, 67, 62, 68, 69, 70, 71, 72, 106, 57, 58, 60, 61, 73, 20, 21, 23, 107, 108, 109, 110, 111, 112, 113, 114, 115, 116, 117, 118, 119, 120, 121, 122, 123, 124, 125, 126, 127, 128, 129, 130, 131, 132, 133, 134, 135, 136, 137, 36, 37, 38, 39, 40, 41, 42, 43, 138, 139, 140, 141, 142, 143, 144, 145, 146, 147, 148, 149, 150, 151, 152, 153, 154, 155, 160, 161, 156, 157, 158, 159, 162, 163, 164] (by decide +kernel) (by decide +kernel)) (goodIn_sub (fun _ h => List.mem_cons_of_mem _ (List.mem_append_right _ h)) (by decide +kernel))
set_option maxRecDepth 20000 in
theorem gX4_update_X4_settle : GoodIn wsX4_update (wsV RX4 136 RX4 yX4_settle wsX4_settle) := goodIn_app (goodIn_of _ (by decide +kernel)) ggX4_update_X4_settle
theorem dX4_update_0 : decode cX4_update 0 = .ok (.aload_n 0, 1) := by decide +kernel
theorem dX4_update_1 : decode cX4_update 1 = .ok (.iload_n 1, 1) := by decide +kernel
theorem dX4_update_2 : decode cX4_update 2 = .ok (.iload_n 3, 1) := by decide +kernel
theorem dX4_update_3 : decode cX4_update 3 = .ok (.invokevirtual 140, 3) := by decide +kernel
theorem dX4_update_6 : decode cX4_update 6 = .ok (.ifCond .eq 16, 3) := by decide +kernel
theorem dX4_update_9 : decode cX4_update 9 = .ok (.iload_n 3, 1) := by decide +kernel
theorem dX4_update_10 : decode cX4_update 10 = .ok (.ifCond .ne 8, 3) := by decide +kernel
theorem dX4_update_13 : decode cX4_update 13 = .ok (.iload 4, 2) := by decide +kernel
theorem dX4_update_15 : decode cX4_update 15 = .ok (.ifCond .eq 7, 3) := by decide +kernel
theorem dX4_update_18 : decode cX4_update 18 = .ok (.iconst 1, 1) := by decide +kernel
theorem dX4_update_19 : decode cX4_update 19 = .ok (.goto 4, 3) := by decide +kernel
theorem dX4_update_22 : decode cX4_update 22 = .ok (.iconst 0, 1) := by decide +kernel
theorem dX4_update_23 : decode cX4_update 23 = .ok (.invokestatic 74, 3) := by decide +kernel
theorem dX4_update_26 : decode cX4_update 26 = .ok (.aload_n 0, 1) := by decide +kernel
theorem dX4_update_27 : decode cX4_update 27 = .ok (.getfield 53, 3) := by decide +kernel
theorem dX4_update_30 : decode cX4_update 30 = .ok (.iload_n 1, 1) := by decide +kernel
theorem dX4_update_31 : decode cX4_update 31 = .ok (.iload_n 2, 1) := by decide +kernel
theorem dX4_update_32 : decode cX4_update 32 = .ok (.invokevirtual 156, 3) := by decide +kernel
theorem dX4_update_35 : decode cX4_update 35 = .ok (.istore 5, 2) := by decide +kernel
theorem dX4_update_37 : decode cX4_update 37 = .ok (.iload 5, 2) := by decide +kernel
theorem dX4_update_39 : decode cX4_update 39 = .ok (.iconst (-1), 1) := by decide +kernel
theorem dX4_update_40 : decode cX4_update 40 = .ok (.if_icmp .eq 7, 3) := by decide +kernel
theorem dX4_update_43 : decode cX4_update 43 = .ok (.iconst 1, 1) := by decide +kernel
theorem dX4_update_44 : decode cX4_update 44 = .ok (.goto 4, 3) := by decide +kernel
theorem dX4_update_47 : decode cX4_update 47 = .ok (.iconst 0, 1) := by decide +kernel
theorem dX4_update_48 : decode cX4_update 48 = .ok (.invokestatic 78, 3) := by decide +kernel
theorem dX4_update_51 : decode cX4_update 51 = .ok (.aload_n 0, 1) := by decide +kernel
theorem dX4_update_52 : decode cX4_update 52 = .ok (.getfield 53, 3) := by decide +kernel
theorem dX4_update_55 : decode cX4_update 55 = .ok (.iload 5, 2) := by decide +kernel
theorem dX4_update_57 : decode cX4_update 57 = .ok (.iload_n 3, 1) := by decide +kernel
theorem dX4_update_58 : decode cX4_update 58 = .ok (.invokevirtual 160, 3) := by decide +kernel
theorem dX4_update_61 : decode cX4_update 61 = .ok (.istore 6, 2) := by decide +kernel
theorem dX4_update_63 : decode cX4_update 63 = .ok (.aload_n 0, 1) := by decide +kernel
theorem dX4_update_64 : decode cX4_update 64 = .ok (.getfield 57, 3) := by decide +kernel
theorem dX4_update_67 : decode cX4_update 67 = .ok (.aload_n 0, 1) := by decide +kernel
theorem dX4_update_68 : decode cX4_update 68 = .ok (.getfield 53, 3) := by decide +kernel
theorem dX4_update_71 : decode cX4_update 71 = .ok (.invokevirtual 125, 3) := by decide +kernel
theorem dX4_update_74 : decode cX4_update 74 = .ok (.aload_n 0, 1) := by decide +kernel
theorem dX4_update_75 : decode cX4_update 75 = .ok (.getfield 57, 3) := by decide +kernel
theorem dX4_update_78 : decode cX4_update 78 = .ok (.iload 5, 2) := by decide +kernel
theorem dX4_update_80 : decode cX4_update 80 = .ok (.iload_n 3, 1) := by decide +kernel
theorem dX4_update_81 : decode cX4_update 81 = .ok (.iload 4, 2) := by decide +kernel
theorem dX4_update_83 : decode cX4_update 83 = .ok (.invokevirtual 132, 3) := by decide +kernel
theorem dX4_update_86 : decode cX4_update 86 = .ok (.aload_n 0, 1) := by decide +kernel
theorem dX4_update_87 : decode cX4_update 87 = .ok (.iload_n 3, 1) := by decide +kernel
theorem dX4_update_88 : decode cX4_update 88 = .ok (.ifCond .ne 21, 3) := by decide +kernel
theorem dX4_update_91 : decode cX4_update 91 = .ok (.iload 4, 2) := by decide +kernel
theorem dX4_update_93 : decode cX4_update 93 = .ok (.iload 6, 2) := by decide +kernel
theorem dX4_update_95 : decode cX4_update 95 = .ok (.if_icmp .eq 14, 3) := by decide +kernel
theorem dX4_update_98 : decode cX4_update 98 = .ok (.aload_n 0, 1) := by decide +kernel
theorem dX4_update_99 : decode cX4_update 99 = .ok (.iload 5, 2) := by decide +kernel
theorem dX4_update_101 : decode cX4_update 101 = .ok (.iload 4, 2) := by decide +kernel
theorem dX4_update_103 : decode cX4_update 103 = .ok (.invokevirtual 163, 3) := by decide +kernel
theorem dX4_update_106 : decode cX4_update 106 = .ok (.goto 4, 3) := by decide +kernel
theorem dX4_update_109 : decode cX4_update 109 = .ok (.iconst (-1), 1) := by decide +kernel
theorem dX4_update_110 : decode cX4_update 110 = .ok (.invokevirtual 136, 3) := by decide +kernel
theorem dX4_update_113 : decode cX4_update 113 = .ok (.iload 6, 2) := by decide +kernel
theorem dX4_update_115 : decode cX4_update 115 = .ok (.ireturn, 1) := by decide +kernel
set_option maxRecDepth 20000 in
theorem ggX4_shift_X4_isCellColumn : GoodIn wsX4_shift wsX4_isCellColumn := goodIn_r _ [7, 8, 9, 10, 6, 11, 12, 13, 14, 15, 16, 17, 134, 135, 136, 137, 138, 139, 140, 141, 142, 143, 144, 145, 146, 147, 148, 149] (by decide +kernel) (by decide +kernel)
set_option maxRecDepth 20000 in
theorem gX4_shift_X4_isCellColumn : GoodIn wsX4_shift (wsV RX4 81 RX4 yX4_isCellColumn wsX4_isCellColumn) := goodIn_app (goodIn_of _ (by decide +kernel)) ggX4_shift_X4_isCellColumn
set_option maxRecDepth 20000 in
theorem ggX4_shift_X4_needArgument : GoodIn wsX4_shift wsX4_needArgument := goodIn_ca (goodIn_r _ [20, 21, 22] (by decide +kernel) (by decide +kernel)) (goodIn_sub (fun _ h => List.mem_cons_of_mem _ (List.mem_append_left _ (List.mem_append_right _ h))) (by decide +kernel))
set_option maxRecDepth 20000 in
theorem gX4_shift_X4_needArgument : GoodIn wsX4_shift (va_wsS RX4 74 yX4_needArgument wsX4_needArgument) := goodIn_app (goodIn_of _ (by decide +kernel)) ggX4_shift_X4_needArgument
set_option maxRecDepth 20000 in
theorem ggX4_shift_X2_become : GoodIn wsX4_shift wsX2_become := goodIn_r _ [27, 28, 29, 30, 31, 32, 33, 150, 151] (by decide +kernel) (by decide +kernel)
set_option maxRecDepth 20000 in
theorem gX4_shift_X2_become : GoodIn wsX4_shift (wsV RX4 125 RX2 yX2_become wsX2_become) := goodIn_app (goodIn_of _ (by decide +kernel)) ggX4_shift_X2_become
set_option maxRecDepth 20000 in
theorem ggX4_shift_X2_holds : GoodIn wsX4_shift wsX2_holds := goodIn_r _ [37, 28, 150, 151] (by decide +kernel) (by decide +kernel)
set_option maxRecDepth 20000 in
theorem gX4_shift_X2_holds : GoodIn wsX4_shift (wsV RX4 166 RX2 yX2_holds wsX2_holds) := goodIn_app (goodIn_of _ (by decide +kernel)) ggX4_shift_X2_holds
set_option maxRecDepth 20000 in
theorem ggX4_shift_X2_at : GoodIn wsX4_shift wsX2_at := goodIn_r _ [41, 33, 150, 151] (by decide +kernel) (by decide +kernel)
set_option maxRecDepth 20000 in
theorem gX4_shift_X2_at : GoodIn wsX4_shift (wsV RX4 160 RX2 yX2_at wsX2_at) := goodIn_app (goodIn_of _ (by decide +kernel)) ggX4_shift_X2_at
set_option maxRecDepth 20000 in
theorem ggX4_shift_X2_put : GoodIn wsX4_shift wsX2_put := goodIn_r _ [45, 33, 150, 151] (by decide +kernel) (by decide +kernel)
set_option maxRecDepth 20000 in
theorem gX4_shift_X2_put : GoodIn wsX4_shift (wsV RX4 132 RX2 yX2_put wsX2_put) := goodIn_app (goodIn_of _ (by decide +kernel)) ggX4_shift_X2_put
set_option maxRecDepth 20000 in
theorem ggX4_shift_X4_settle : GoodIn wsX4_shift wsX4_settle := goodIn_ca (goodIn_r _ [49, 1, 2, 50, 51, 52, 6, 53, 17, 54, 55, 56, 57, 58, 59, 60, 61, 62, 26, 63, 28, 64, 39, 40, 41, 33, 65, 66, 67, 68, 69, 70, 71, 72, 73, 74, 75, 76, 77, 78, 79, 80, 81, 82, 83, 84, 85, 86, 87, 88, 35, 36, 37, 89, 90, 91, 92, 93, 94, 95, 96, 97, 98, 99, 100, 101, 102, 103, 104, 105, 106, 107, 108, 109, 110, 111, 112, 113, 114, 115, 116, 117, 118, 119, 120, 121, 122, 123, 124, 125, 126, 127, 128, 129, 23, 24, 25, 27, 29, 30, 31, 32, 134, 135, 136, 137, 138, 139, 140, 141, 142, 143, 144, 145, 146, 147, 148, 149, 150, 151, 152, 153, 154, 155, 156, 157, 158, 159, 160] (by decide +kernel) (by decide +kernel)) (goodIn_sub (fun _ h => List.mem_cons_of_mem _ (List.mem_append_right _ h)) (by decide +kernel))
set_option maxRecDepth 20000 in
theorem gX4_shift_X4_settle : GoodIn wsX4_shift (wsV RX4 136 RX4 yX4_settle wsX4_settle) := goodIn_app (goodIn_of _ (by decide +kernel)) ggX4_shift_X4_settle
set_option maxRecDepth 20000 in
theorem ggX4_shift_X2_size : GoodIn wsX4_shift wsX2_size := goodIn_r _ [133, 28, 150, 151] (by decide +kernel) (by decide +kernel)
set_option maxRecDepth 20000 in
theorem gX4_shift_X2_size : GoodIn wsX4_shift (wsV RX4 169 RX2 yX2_size wsX2_size) := goodIn_app (goodIn_of _ (by decide +kernel)) ggX4_shift_X2_size
theorem dX4_shift_0 : decode cX4_shift 0 = .ok (.aload_n 0, 1) := by decide +kernel
theorem dX4_shift_1 : decode cX4_shift 1 = .ok (.iload_n 1, 1) := by decide +kernel
theorem dX4_shift_2 : decode cX4_shift 2 = .ok (.iload_n 2, 1) := by decide +kernel
theorem dX4_shift_3 : decode cX4_shift 3 = .ok (.invokevirtual 81, 3) := by decide +kernel
theorem dX4_shift_6 : decode cX4_shift 6 = .ok (.invokestatic 74, 3) := by decide +kernel
theorem dX4_shift_9 : decode cX4_shift 9 = .ok (.aload_n 0, 1) := by decide +kernel
theorem dX4_shift_10 : decode cX4_shift 10 = .ok (.getfield 57, 3) := by decide +kernel
theorem dX4_shift_13 : decode cX4_shift 13 = .ok (.aload_n 0, 1) := by decide +kernel
theorem dX4_shift_14 : decode cX4_shift 14 = .ok (.getfield 53, 3) := by decide +kernel
theorem dX4_shift_17 : decode cX4_shift 17 = .ok (.invokevirtual 125, 3) := by decide +kernel
theorem dX4_shift_20 : decode cX4_shift 20 = .ok (.iconst 0, 1) := by decide +kernel
theorem dX4_shift_21 : decode cX4_shift 21 = .ok (.istore 4, 2) := by decide +kernel
theorem dX4_shift_23 : decode cX4_shift 23 = .ok (.iload 4, 2) := by decide +kernel
theorem dX4_shift_25 : decode cX4_shift 25 = .ok (.bipush 24, 2) := by decide +kernel
theorem dX4_shift_27 : decode cX4_shift 27 = .ok (.if_icmp .ge 44, 3) := by decide +kernel
theorem dX4_shift_30 : decode cX4_shift 30 = .ok (.aload_n 0, 1) := by decide +kernel
theorem dX4_shift_31 : decode cX4_shift 31 = .ok (.getfield 57, 3) := by decide +kernel
theorem dX4_shift_34 : decode cX4_shift 34 = .ok (.iload 4, 2) := by decide +kernel
theorem dX4_shift_36 : decode cX4_shift 36 = .ok (.iload_n 1, 1) := by decide +kernel
theorem dX4_shift_37 : decode cX4_shift 37 = .ok (.invokevirtual 166, 3) := by decide +kernel
theorem dX4_shift_40 : decode cX4_shift 40 = .ok (.ifCond .eq 25, 3) := by decide +kernel
theorem dX4_shift_43 : decode cX4_shift 43 = .ok (.aload_n 0, 1) := by decide +kernel
theorem dX4_shift_44 : decode cX4_shift 44 = .ok (.getfield 57, 3) := by decide +kernel
theorem dX4_shift_47 : decode cX4_shift 47 = .ok (.iload 4, 2) := by decide +kernel
theorem dX4_shift_49 : decode cX4_shift 49 = .ok (.iload_n 2, 1) := by decide +kernel
theorem dX4_shift_50 : decode cX4_shift 50 = .ok (.aload_n 0, 1) := by decide +kernel
theorem dX4_shift_51 : decode cX4_shift 51 = .ok (.getfield 57, 3) := by decide +kernel
theorem dX4_shift_54 : decode cX4_shift 54 = .ok (.iload 4, 2) := by decide +kernel
theorem dX4_shift_56 : decode cX4_shift 56 = .ok (.iload_n 2, 1) := by decide +kernel
theorem dX4_shift_57 : decode cX4_shift 57 = .ok (.invokevirtual 160, 3) := by decide +kernel
theorem dX4_shift_60 : decode cX4_shift 60 = .ok (.iload_n 3, 1) := by decide +kernel
theorem dX4_shift_61 : decode cX4_shift 61 = .ok (.iadd, 1) := by decide +kernel
theorem dX4_shift_62 : decode cX4_shift 62 = .ok (.invokevirtual 132, 3) := by decide +kernel
theorem dX4_shift_65 : decode cX4_shift 65 = .ok (.iinc 4 1, 3) := by decide +kernel
theorem dX4_shift_68 : decode cX4_shift 68 = .ok (.goto (-45), 3) := by decide +kernel
theorem dX4_shift_71 : decode cX4_shift 71 = .ok (.aload_n 0, 1) := by decide +kernel
theorem dX4_shift_72 : decode cX4_shift 72 = .ok (.iconst (-1), 1) := by decide +kernel
theorem dX4_shift_73 : decode cX4_shift 73 = .ok (.invokevirtual 136, 3) := by decide +kernel
theorem dX4_shift_76 : decode cX4_shift 76 = .ok (.aload_n 0, 1) := by decide +kernel
theorem dX4_shift_77 : decode cX4_shift 77 = .ok (.getfield 53, 3) := by decide +kernel
theorem dX4_shift_80 : decode cX4_shift 80 = .ok (.iload_n 1, 1) := by decide +kernel
theorem dX4_shift_81 : decode cX4_shift 81 = .ok (.invokevirtual 169, 3) := by decide +kernel
theorem dX4_shift_84 : decode cX4_shift 84 = .ok (.ireturn, 1) := by decide +kernel
set_option maxRecDepth 20000 in
theorem ggX4_keep_X4_needElement : GoodIn wsX4_keep wsX4_needElement := goodIn_ca (goodIn_r _ [7, 8, 9] (by decide +kernel) (by decide +kernel)) (goodIn_sub (fun _ h => List.mem_cons_of_mem _ (List.mem_append_right _ h)) (by decide +kernel))
set_option maxRecDepth 20000 in
theorem gX4_keep_X4_needElement : GoodIn wsX4_keep (va_wsS RX4 78 yX4_needElement wsX4_needElement) := goodIn_app (goodIn_of _ (by decide +kernel)) ggX4_keep_X4_needElement
set_option maxRecDepth 20000 in
theorem ggX4_keep_X2_become : GoodIn wsX4_keep wsX2_become := goodIn_r _ [14, 15, 16, 17, 18, 19, 20, 37, 38] (by decide +kernel) (by decide +kernel)
set_option maxRecDepth 20000 in
theorem gX4_keep_X2_become : GoodIn wsX4_keep (wsV RX4 125 RX2 yX2_become wsX2_become) := goodIn_app (goodIn_of _ (by decide +kernel)) ggX4_keep_X2_become
theorem dX4_keep_0 : decode cX4_keep 0 = .ok (.aload_n 0, 1) := by decide +kernel
theorem dX4_keep_1 : decode cX4_keep 1 = .ok (.getfield 64, 3) := by decide +kernel
theorem dX4_keep_4 : decode cX4_keep 4 = .ok (.iconst 4, 1) := by decide +kernel
theorem dX4_keep_5 : decode cX4_keep 5 = .ok (.if_icmp .ge 7, 3) := by decide +kernel
theorem dX4_keep_8 : decode cX4_keep 8 = .ok (.iconst 1, 1) := by decide +kernel
theorem dX4_keep_9 : decode cX4_keep 9 = .ok (.goto 4, 3) := by decide +kernel
theorem dX4_keep_12 : decode cX4_keep 12 = .ok (.iconst 0, 1) := by decide +kernel
theorem dX4_keep_13 : decode cX4_keep 13 = .ok (.invokestatic 78, 3) := by decide +kernel
theorem dX4_keep_16 : decode cX4_keep 16 = .ok (.aload_n 0, 1) := by decide +kernel
theorem dX4_keep_17 : decode cX4_keep 17 = .ok (.getfield 60, 3) := by decide +kernel
theorem dX4_keep_20 : decode cX4_keep 20 = .ok (.aload_n 0, 1) := by decide +kernel
theorem dX4_keep_21 : decode cX4_keep 21 = .ok (.getfield 64, 3) := by decide +kernel
theorem dX4_keep_24 : decode cX4_keep 24 = .ok (.aaload, 1) := by decide +kernel
theorem dX4_keep_25 : decode cX4_keep 25 = .ok (.aload_n 0, 1) := by decide +kernel
theorem dX4_keep_26 : decode cX4_keep 26 = .ok (.getfield 53, 3) := by decide +kernel
theorem dX4_keep_29 : decode cX4_keep 29 = .ok (.invokevirtual 125, 3) := by decide +kernel
theorem dX4_keep_32 : decode cX4_keep 32 = .ok (.aload_n 0, 1) := by decide +kernel
theorem dX4_keep_33 : decode cX4_keep 33 = .ok (.dup, 1) := by decide +kernel
theorem dX4_keep_34 : decode cX4_keep 34 = .ok (.getfield 64, 3) := by decide +kernel
theorem dX4_keep_37 : decode cX4_keep 37 = .ok (.iconst 1, 1) := by decide +kernel
theorem dX4_keep_38 : decode cX4_keep 38 = .ok (.iadd, 1) := by decide +kernel
theorem dX4_keep_39 : decode cX4_keep 39 = .ok (.putfield 64, 3) := by decide +kernel
theorem dX4_keep_42 : decode cX4_keep 42 = .ok (.aload_n 0, 1) := by decide +kernel
theorem dX4_keep_43 : decode cX4_keep 43 = .ok (.getfield 64, 3) := by decide +kernel
theorem dX4_keep_46 : decode cX4_keep 46 = .ok (.ireturn, 1) := by decide +kernel
set_option maxRecDepth 20000 in
theorem ggX4_back_X4_needElement : GoodIn wsX4_back wsX4_needElement := goodIn_ca (goodIn_r _ [7, 8, 9] (by decide +kernel) (by decide +kernel)) (goodIn_sub (fun _ h => List.mem_cons_of_mem _ (List.mem_append_left _ (List.mem_append_right _ h))) (by decide +kernel))
set_option maxRecDepth 20000 in
theorem gX4_back_X4_needElement : GoodIn wsX4_back (va_wsS RX4 78 yX4_needElement wsX4_needElement) := goodIn_app (goodIn_of _ (by decide +kernel)) ggX4_back_X4_needElement
set_option maxRecDepth 20000 in
theorem ggX4_back_X4_whyBroken : GoodIn wsX4_back wsX4_whyBroken := goodIn_r _ [13, 14, 15, 16, 17, 18, 19, 20, 21, 22, 23, 24, 25, 26, 27, 28, 29, 30, 31, 32, 33, 34, 35, 36, 37, 38, 39, 40, 41, 42, 43, 44, 45, 46, 47, 48, 49, 50, 51, 52, 53, 54, 55, 56, 57, 58, 59, 60, 61, 62, 63, 64, 65, 66, 67, 68, 69, 70, 71, 72, 73, 74, 75, 76, 77, 78, 79, 80, 81, 82, 83, 84, 85, 86, 87, 88, 89, 90, 91, 92, 108, 109, 110, 111, 112, 113, 114, 115, 116, 117, 118, 119, 120, 121, 122, 123, 124, 125, 126, 127, 128, 129, 130, 131, 132, 133, 134] (by decide +kernel) (by decide +kernel)
set_option maxRecDepth 20000 in
theorem gX4_back_X4_whyBroken : GoodIn wsX4_back (wsV RX4 173 RX4 yX4_whyBroken wsX4_whyBroken) := goodIn_app (goodIn_of _ (by decide +kernel)) ggX4_back_X4_whyBroken
set_option maxRecDepth 20000 in
theorem ggX4_back_X4_refuseIf : GoodIn wsX4_back wsX4_refuseIf := goodIn_ca (goodIn_r _ [96, 97, 98, 99, 108, 109, 110, 111, 112, 113, 114, 115, 116, 117, 118, 119, 120, 121, 122, 123] (by decide +kernel) (by decide +kernel)) (goodIn_sub (fun _ h => List.mem_cons_of_mem _ (List.mem_append_right _ h)) (by decide +kernel))
set_option maxRecDepth 20000 in
theorem gX4_back_X4_refuseIf : GoodIn wsX4_back (wsV RX4 96 RX4 yX4_refuseIf wsX4_refuseIf) := goodIn_app (goodIn_of _ (by decide +kernel)) ggX4_back_X4_refuseIf
set_option maxRecDepth 20000 in
theorem ggX4_back_X2_become : GoodIn wsX4_back wsX2_become := goodIn_r _ [103, 26, 104, 105, 106, 107, 31, 124, 125] (by decide +kernel) (by decide +kernel)
set_option maxRecDepth 20000 in
theorem gX4_back_X2_become : GoodIn wsX4_back (wsV RX4 125 RX2 yX2_become wsX2_become) := goodIn_app (goodIn_of _ (by decide +kernel)) ggX4_back_X2_become
theorem dX4_back_0 : decode cX4_back 0 = .ok (.aload_n 0, 1) := by decide +kernel
theorem dX4_back_1 : decode cX4_back 1 = .ok (.getfield 64, 3) := by decide +kernel
theorem dX4_back_4 : decode cX4_back 4 = .ok (.ifCond .le 7, 3) := by decide +kernel
theorem dX4_back_7 : decode cX4_back 7 = .ok (.iconst 1, 1) := by decide +kernel
theorem dX4_back_8 : decode cX4_back 8 = .ok (.goto 4, 3) := by decide +kernel
theorem dX4_back_11 : decode cX4_back 11 = .ok (.iconst 0, 1) := by decide +kernel
theorem dX4_back_12 : decode cX4_back 12 = .ok (.invokestatic 78, 3) := by decide +kernel
theorem dX4_back_15 : decode cX4_back 15 = .ok (.aload_n 0, 1) := by decide +kernel
theorem dX4_back_16 : decode cX4_back 16 = .ok (.getfield 60, 3) := by decide +kernel
theorem dX4_back_19 : decode cX4_back 19 = .ok (.aload_n 0, 1) := by decide +kernel
theorem dX4_back_20 : decode cX4_back 20 = .ok (.getfield 64, 3) := by decide +kernel
theorem dX4_back_23 : decode cX4_back 23 = .ok (.iconst 1, 1) := by decide +kernel
theorem dX4_back_24 : decode cX4_back 24 = .ok (.isub, 1) := by decide +kernel
theorem dX4_back_25 : decode cX4_back 25 = .ok (.aaload, 1) := by decide +kernel
theorem dX4_back_26 : decode cX4_back 26 = .ok (.astore_n 1, 1) := by decide +kernel
theorem dX4_back_27 : decode cX4_back 27 = .ok (.aload_n 0, 1) := by decide +kernel
theorem dX4_back_28 : decode cX4_back 28 = .ok (.aload_n 1, 1) := by decide +kernel
theorem dX4_back_29 : decode cX4_back 29 = .ok (.invokevirtual 173, 3) := by decide +kernel
theorem dX4_back_32 : decode cX4_back 32 = .ok (.istore_n 2, 1) := by decide +kernel
theorem dX4_back_33 : decode cX4_back 33 = .ok (.aload_n 0, 1) := by decide +kernel
theorem dX4_back_34 : decode cX4_back 34 = .ok (.iload_n 2, 1) := by decide +kernel
theorem dX4_back_35 : decode cX4_back 35 = .ok (.ifCond .eq 7, 3) := by decide +kernel
theorem dX4_back_38 : decode cX4_back 38 = .ok (.iconst 1, 1) := by decide +kernel
theorem dX4_back_39 : decode cX4_back 39 = .ok (.goto 4, 3) := by decide +kernel
theorem dX4_back_42 : decode cX4_back 42 = .ok (.iconst 0, 1) := by decide +kernel
theorem dX4_back_43 : decode cX4_back 43 = .ok (.iload_n 2, 1) := by decide +kernel
theorem dX4_back_44 : decode cX4_back 44 = .ok (.invokevirtual 96, 3) := by decide +kernel
theorem dX4_back_47 : decode cX4_back 47 = .ok (.aload_n 0, 1) := by decide +kernel
theorem dX4_back_48 : decode cX4_back 48 = .ok (.getfield 53, 3) := by decide +kernel
theorem dX4_back_51 : decode cX4_back 51 = .ok (.aload_n 1, 1) := by decide +kernel
theorem dX4_back_52 : decode cX4_back 52 = .ok (.invokevirtual 125, 3) := by decide +kernel
theorem dX4_back_55 : decode cX4_back 55 = .ok (.aload_n 0, 1) := by decide +kernel
theorem dX4_back_56 : decode cX4_back 56 = .ok (.dup, 1) := by decide +kernel
theorem dX4_back_57 : decode cX4_back 57 = .ok (.getfield 64, 3) := by decide +kernel
theorem dX4_back_60 : decode cX4_back 60 = .ok (.iconst 1, 1) := by decide +kernel
theorem dX4_back_61 : decode cX4_back 61 = .ok (.isub, 1) := by decide +kernel
theorem dX4_back_62 : decode cX4_back 62 = .ok (.putfield 64, 3) := by decide +kernel
theorem dX4_back_65 : decode cX4_back 65 = .ok (.aload_n 0, 1) := by decide +kernel
theorem dX4_back_66 : decode cX4_back 66 = .ok (.getfield 64, 3) := by decide +kernel
theorem dX4_back_69 : decode cX4_back 69 = .ok (.ireturn, 1) := by decide +kernel
set_option maxRecDepth 20000 in
theorem ggX4_has_X4_isTable : GoodIn wsX4_has wsX4_isTable := goodIn_r _ [6, 7, 24, 25, 26, 27, 28, 29, 30, 31, 32, 33, 34, 35, 36, 37, 38, 39] (by decide +kernel) (by decide +kernel)
set_option maxRecDepth 20000 in
theorem gX4_has_X4_isTable : GoodIn wsX4_has (wsV RX4 85 RX4 yX4_isTable wsX4_isTable) := goodIn_app (goodIn_of _ (by decide +kernel)) ggX4_has_X4_isTable
set_option maxRecDepth 20000 in
theorem ggX4_has_X4_needArgument : GoodIn wsX4_has wsX4_needArgument := goodIn_ca (goodIn_r _ [10, 11, 12] (by decide +kernel) (by decide +kernel)) (goodIn_sub (fun _ h => List.mem_cons_of_mem _ (List.mem_append_right _ h)) (by decide +kernel))
set_option maxRecDepth 20000 in
theorem gX4_has_X4_needArgument : GoodIn wsX4_has (va_wsS RX4 74 yX4_needArgument wsX4_needArgument) := goodIn_app (goodIn_of _ (by decide +kernel)) ggX4_has_X4_needArgument
set_option maxRecDepth 20000 in
theorem ggX4_has_X2_find : GoodIn wsX4_has wsX2_find := goodIn_r _ [17, 18, 19, 20, 21, 16, 22, 23, 40, 41] (by decide +kernel) (by decide +kernel)
set_option maxRecDepth 20000 in
theorem gX4_has_X2_find : GoodIn wsX4_has (wsV RX4 156 RX2 yX2_find wsX2_find) := goodIn_app (goodIn_of _ (by decide +kernel)) ggX4_has_X2_find
theorem dX4_has_0 : decode cX4_has 0 = .ok (.aload_n 0, 1) := by decide +kernel
theorem dX4_has_1 : decode cX4_has 1 = .ok (.iload_n 1, 1) := by decide +kernel
theorem dX4_has_2 : decode cX4_has 2 = .ok (.invokevirtual 85, 3) := by decide +kernel
theorem dX4_has_5 : decode cX4_has 5 = .ok (.invokestatic 74, 3) := by decide +kernel
theorem dX4_has_8 : decode cX4_has 8 = .ok (.aload_n 0, 1) := by decide +kernel
theorem dX4_has_9 : decode cX4_has 9 = .ok (.getfield 53, 3) := by decide +kernel
theorem dX4_has_12 : decode cX4_has 12 = .ok (.iload_n 1, 1) := by decide +kernel
theorem dX4_has_13 : decode cX4_has 13 = .ok (.iload_n 2, 1) := by decide +kernel
theorem dX4_has_14 : decode cX4_has 14 = .ok (.invokevirtual 156, 3) := by decide +kernel
theorem dX4_has_17 : decode cX4_has 17 = .ok (.iconst (-1), 1) := by decide +kernel
theorem dX4_has_18 : decode cX4_has 18 = .ok (.if_icmp .eq 7, 3) := by decide +kernel
theorem dX4_has_21 : decode cX4_has 21 = .ok (.iconst 1, 1) := by decide +kernel
theorem dX4_has_22 : decode cX4_has 22 = .ok (.goto 4, 3) := by decide +kernel
theorem dX4_has_25 : decode cX4_has 25 = .ok (.iconst 0, 1) := by decide +kernel
theorem dX4_has_26 : decode cX4_has 26 = .ok (.ireturn, 1) := by decide +kernel
set_option maxRecDepth 20000 in
theorem ggX4_cell_X4_isColumn : GoodIn wsX4_cell wsX4_isColumn := goodIn_r _ [6, 7, 8, 9, 10, 5, 11, 12, 35, 36, 37, 38, 39, 40, 41, 42, 43, 44, 45, 46, 47, 48, 49, 50] (by decide +kernel) (by decide +kernel)
set_option maxRecDepth 20000 in
theorem gX4_cell_X4_isColumn : GoodIn wsX4_cell (wsV RX4 140 RX4 yX4_isColumn wsX4_isColumn) := goodIn_app (goodIn_of _ (by decide +kernel)) ggX4_cell_X4_isColumn
set_option maxRecDepth 20000 in
theorem ggX4_cell_X4_needArgument : GoodIn wsX4_cell wsX4_needArgument := goodIn_ca (goodIn_r _ [15, 16, 17] (by decide +kernel) (by decide +kernel)) (goodIn_sub (fun _ h => List.mem_cons_of_mem _ (List.mem_append_left _ (List.mem_append_right _ h))) (by decide +kernel))
set_option maxRecDepth 20000 in
theorem gX4_cell_X4_needArgument : GoodIn wsX4_cell (va_wsS RX4 74 yX4_needArgument wsX4_needArgument) := goodIn_app (goodIn_of _ (by decide +kernel)) ggX4_cell_X4_needArgument
set_option maxRecDepth 20000 in
theorem ggX4_cell_X2_find : GoodIn wsX4_cell wsX2_find := goodIn_r _ [22, 23, 24, 25, 26, 21, 27, 28, 51, 52] (by decide +kernel) (by decide +kernel)
set_option maxRecDepth 20000 in
theorem gX4_cell_X2_find : GoodIn wsX4_cell (wsV RX4 156 RX2 yX2_find wsX2_find) := goodIn_app (goodIn_of _ (by decide +kernel)) ggX4_cell_X2_find
set_option maxRecDepth 20000 in
theorem ggX4_cell_X4_needElement : GoodIn wsX4_cell wsX4_needElement := goodIn_ca (goodIn_r _ [31, 32, 33] (by decide +kernel) (by decide +kernel)) (goodIn_sub (fun _ h => List.mem_cons_of_mem _ (List.mem_append_right _ h)) (by decide +kernel))
set_option maxRecDepth 20000 in
theorem gX4_cell_X4_needElement : GoodIn wsX4_cell (va_wsS RX4 78 yX4_needElement wsX4_needElement) := goodIn_app (goodIn_of _ (by decide +kernel)) ggX4_cell_X4_needElement
set_option maxRecDepth 20000 in
theorem ggX4_cell_X2_at : GoodIn wsX4_cell wsX2_at := goodIn_r _ [27, 28, 51, 52] (by decide +kernel) (by decide +kernel)
set_option maxRecDepth 20000 in
theorem gX4_cell_X2_at : GoodIn wsX4_cell (wsV RX4 160 RX2 yX2_at wsX2_at) := goodIn_app (goodIn_of _ (by decide +kernel)) ggX4_cell_X2_at
theorem dX4_cell_0 : decode cX4_cell 0 = .ok (.aload_n 0, 1) := by decide +kernel
theorem dX4_cell_1 : decode cX4_cell 1 = .ok (.iload_n 1, 1) := by decide +kernel
theorem dX4_cell_2 : decode cX4_cell 2 = .ok (.iload_n 3, 1) := by decide +kernel
theorem dX4_cell_3 : decode cX4_cell 3 = .ok (.invokevirtual 140, 3) := by decide +kernel
theorem dX4_cell_6 : decode cX4_cell 6 = .ok (.invokestatic 74, 3) := by decide +kernel
theorem dX4_cell_9 : decode cX4_cell 9 = .ok (.aload_n 0, 1) := by decide +kernel
theorem dX4_cell_10 : decode cX4_cell 10 = .ok (.getfield 53, 3) := by decide +kernel
theorem dX4_cell_13 : decode cX4_cell 13 = .ok (.iload_n 1, 1) := by decide +kernel
theorem dX4_cell_14 : decode cX4_cell 14 = .ok (.iload_n 2, 1) := by decide +kernel
theorem dX4_cell_15 : decode cX4_cell 15 = .ok (.invokevirtual 156, 3) := by decide +kernel
theorem dX4_cell_18 : decode cX4_cell 18 = .ok (.istore 4, 2) := by decide +kernel
theorem dX4_cell_20 : decode cX4_cell 20 = .ok (.iload 4, 2) := by decide +kernel
theorem dX4_cell_22 : decode cX4_cell 22 = .ok (.iconst (-1), 1) := by decide +kernel
theorem dX4_cell_23 : decode cX4_cell 23 = .ok (.if_icmp .eq 7, 3) := by decide +kernel
theorem dX4_cell_26 : decode cX4_cell 26 = .ok (.iconst 1, 1) := by decide +kernel
theorem dX4_cell_27 : decode cX4_cell 27 = .ok (.goto 4, 3) := by decide +kernel
theorem dX4_cell_30 : decode cX4_cell 30 = .ok (.iconst 0, 1) := by decide +kernel
theorem dX4_cell_31 : decode cX4_cell 31 = .ok (.invokestatic 78, 3) := by decide +kernel
theorem dX4_cell_34 : decode cX4_cell 34 = .ok (.aload_n 0, 1) := by decide +kernel
theorem dX4_cell_35 : decode cX4_cell 35 = .ok (.getfield 53, 3) := by decide +kernel
theorem dX4_cell_38 : decode cX4_cell 38 = .ok (.iload 4, 2) := by decide +kernel
theorem dX4_cell_40 : decode cX4_cell 40 = .ok (.iload_n 3, 1) := by decide +kernel
theorem dX4_cell_41 : decode cX4_cell 41 = .ok (.invokevirtual 160, 3) := by decide +kernel
theorem dX4_cell_44 : decode cX4_cell 44 = .ok (.ireturn, 1) := by decide +kernel
set_option maxRecDepth 20000 in
theorem ggX4_key_X4_isTable : GoodIn wsX4_key wsX4_isTable := goodIn_r _ [8, 9, 31, 32, 33, 34, 35, 36, 37, 38, 39, 40, 41, 42, 43, 44, 45, 46] (by decide +kernel) (by decide +kernel)
set_option maxRecDepth 20000 in
theorem gX4_key_X4_isTable : GoodIn wsX4_key (wsV RX4 85 RX4 yX4_isTable wsX4_isTable) := goodIn_app (goodIn_of _ (by decide +kernel)) ggX4_key_X4_isTable
set_option maxRecDepth 20000 in
theorem ggX4_key_X4_needArgument : GoodIn wsX4_key wsX4_needArgument := goodIn_ca (goodIn_r _ [12, 13, 14] (by decide +kernel) (by decide +kernel)) (goodIn_sub (fun _ h => List.mem_cons_of_mem _ (List.mem_append_right _ h)) (by decide +kernel))
set_option maxRecDepth 20000 in
theorem gX4_key_X4_needArgument : GoodIn wsX4_key (va_wsS RX4 74 yX4_needArgument wsX4_needArgument) := goodIn_app (goodIn_of _ (by decide +kernel)) ggX4_key_X4_needArgument
set_option maxRecDepth 20000 in
theorem ggX4_key_X2_placeOfRank : GoodIn wsX4_key wsX2_placeOfRank := goodIn_r _ [19, 20, 21, 22, 23, 18, 24, 25, 26, 27, 28, 29, 47, 48] (by decide +kernel) (by decide +kernel)
set_option maxRecDepth 20000 in
theorem gX4_key_X2_placeOfRank : GoodIn wsX4_key (wsV RX4 177 RX2 yX2_placeOfRank wsX2_placeOfRank) := goodIn_app (goodIn_of _ (by decide +kernel)) ggX4_key_X2_placeOfRank
set_option maxRecDepth 20000 in
theorem ggX4_key_X2_at : GoodIn wsX4_key wsX2_at := goodIn_r _ [24, 25, 47, 48] (by decide +kernel) (by decide +kernel)
set_option maxRecDepth 20000 in
theorem gX4_key_X2_at : GoodIn wsX4_key (wsV RX4 160 RX2 yX2_at wsX2_at) := goodIn_app (goodIn_of _ (by decide +kernel)) ggX4_key_X2_at
theorem dX4_key_0 : decode cX4_key 0 = .ok (.aload_n 0, 1) := by decide +kernel
theorem dX4_key_1 : decode cX4_key 1 = .ok (.iload_n 1, 1) := by decide +kernel
theorem dX4_key_2 : decode cX4_key 2 = .ok (.invokevirtual 85, 3) := by decide +kernel
theorem dX4_key_5 : decode cX4_key 5 = .ok (.invokestatic 74, 3) := by decide +kernel
theorem dX4_key_8 : decode cX4_key 8 = .ok (.aload_n 0, 1) := by decide +kernel
theorem dX4_key_9 : decode cX4_key 9 = .ok (.getfield 53, 3) := by decide +kernel
theorem dX4_key_12 : decode cX4_key 12 = .ok (.iload_n 1, 1) := by decide +kernel
theorem dX4_key_13 : decode cX4_key 13 = .ok (.iload_n 2, 1) := by decide +kernel
theorem dX4_key_14 : decode cX4_key 14 = .ok (.invokevirtual 177, 3) := by decide +kernel
theorem dX4_key_17 : decode cX4_key 17 = .ok (.istore_n 3, 1) := by decide +kernel
theorem dX4_key_18 : decode cX4_key 18 = .ok (.iload_n 3, 1) := by decide +kernel
theorem dX4_key_19 : decode cX4_key 19 = .ok (.iconst (-1), 1) := by decide +kernel
theorem dX4_key_20 : decode cX4_key 20 = .ok (.if_icmp .ne 11, 3) := by decide +kernel
theorem dX4_key_23 : decode cX4_key 23 = .ok (.new 180, 3) := by decide +kernel
theorem dX4_key_26 : decode cX4_key 26 = .ok (.dup, 1) := by decide +kernel
theorem dX4_key_27 : decode cX4_key 27 = .ok (.invokespecial 182, 3) := by decide +kernel
theorem dX4_key_30 : decode cX4_key 30 = .ok (.athrow, 1) := by decide +kernel
theorem dX4_key_31 : decode cX4_key 31 = .ok (.aload_n 0, 1) := by decide +kernel
theorem dX4_key_32 : decode cX4_key 32 = .ok (.getfield 53, 3) := by decide +kernel
theorem dX4_key_35 : decode cX4_key 35 = .ok (.iload_n 3, 1) := by decide +kernel
theorem dX4_key_36 : decode cX4_key 36 = .ok (.iconst 0, 1) := by decide +kernel
theorem dX4_key_37 : decode cX4_key 37 = .ok (.invokevirtual 160, 3) := by decide +kernel
theorem dX4_key_40 : decode cX4_key 40 = .ok (.ireturn, 1) := by decide +kernel
set_option maxRecDepth 20000 in
theorem ggX4_count_X4_isTable : GoodIn wsX4_count wsX4_isTable := goodIn_r _ [6, 7, 19, 20, 21, 22, 23, 24, 25, 26, 27, 28, 29, 30, 31, 32, 33, 34] (by decide +kernel) (by decide +kernel)
set_option maxRecDepth 20000 in
theorem gX4_count_X4_isTable : GoodIn wsX4_count (wsV RX4 85 RX4 yX4_isTable wsX4_isTable) := goodIn_app (goodIn_of _ (by decide +kernel)) ggX4_count_X4_isTable
set_option maxRecDepth 20000 in
theorem ggX4_count_X4_needArgument : GoodIn wsX4_count wsX4_needArgument := goodIn_ca (goodIn_r _ [10, 11, 12] (by decide +kernel) (by decide +kernel)) (goodIn_sub (fun _ h => List.mem_cons_of_mem _ (List.mem_append_right _ h)) (by decide +kernel))
set_option maxRecDepth 20000 in
theorem gX4_count_X4_needArgument : GoodIn wsX4_count (va_wsS RX4 74 yX4_needArgument wsX4_needArgument) := goodIn_app (goodIn_of _ (by decide +kernel)) ggX4_count_X4_needArgument
set_option maxRecDepth 20000 in
theorem ggX4_count_X2_size : GoodIn wsX4_count wsX2_size := goodIn_r _ [17, 18, 35, 36] (by decide +kernel) (by decide +kernel)
set_option maxRecDepth 20000 in
theorem gX4_count_X2_size : GoodIn wsX4_count (wsV RX4 169 RX2 yX2_size wsX2_size) := goodIn_app (goodIn_of _ (by decide +kernel)) ggX4_count_X2_size
theorem dX4_count_0 : decode cX4_count 0 = .ok (.aload_n 0, 1) := by decide +kernel
theorem dX4_count_1 : decode cX4_count 1 = .ok (.iload_n 1, 1) := by decide +kernel
theorem dX4_count_2 : decode cX4_count 2 = .ok (.invokevirtual 85, 3) := by decide +kernel
theorem dX4_count_5 : decode cX4_count 5 = .ok (.invokestatic 74, 3) := by decide +kernel
theorem dX4_count_8 : decode cX4_count 8 = .ok (.aload_n 0, 1) := by decide +kernel
theorem dX4_count_9 : decode cX4_count 9 = .ok (.getfield 53, 3) := by decide +kernel
theorem dX4_count_12 : decode cX4_count 12 = .ok (.iload_n 1, 1) := by decide +kernel
theorem dX4_count_13 : decode cX4_count 13 = .ok (.invokevirtual 169, 3) := by decide +kernel
theorem dX4_count_16 : decode cX4_count 16 = .ok (.ireturn, 1) := by decide +kernel
set_option maxRecDepth 20000 in
theorem ggX4_referring_X4_needArgument : GoodIn wsX4_referring wsX4_needArgument := goodIn_ca (goodIn_r _ [8, 9, 10] (by decide +kernel) (by decide +kernel)) (goodIn_sub (fun _ h => List.mem_cons_of_mem _ (List.mem_append_left _ (List.mem_append_right _ h))) (by decide +kernel))
set_option maxRecDepth 20000 in
theorem gX4_referring_X4_needArgument : GoodIn wsX4_referring (va_wsS RX4 74 yX4_needArgument wsX4_needArgument) := goodIn_app (goodIn_of _ (by decide +kernel)) ggX4_referring_X4_needArgument
set_option maxRecDepth 20000 in
theorem ggX4_referring_X2_find : GoodIn wsX4_referring wsX2_find := goodIn_r _ [15, 16, 17, 18, 19, 14, 20, 21, 65, 66] (by decide +kernel) (by decide +kernel)
set_option maxRecDepth 20000 in
theorem gX4_referring_X2_find : GoodIn wsX4_referring (wsV RX4 156 RX2 yX2_find wsX2_find) := goodIn_app (goodIn_of _ (by decide +kernel)) ggX4_referring_X2_find
set_option maxRecDepth 20000 in
theorem ggX4_referring_X4_needElement : GoodIn wsX4_referring wsX4_needElement := goodIn_ca (goodIn_r _ [24, 25, 26] (by decide +kernel) (by decide +kernel)) (goodIn_sub (fun _ h => List.mem_cons_of_mem _ (List.mem_append_right _ h)) (by decide +kernel))
set_option maxRecDepth 20000 in
theorem gX4_referring_X4_needElement : GoodIn wsX4_referring (va_wsS RX4 78 yX4_needElement wsX4_needElement) := goodIn_app (goodIn_of _ (by decide +kernel)) ggX4_referring_X4_needElement
set_option maxRecDepth 20000 in
theorem ggX4_referring_X1_target : GoodIn wsX4_referring wsX1_target := goodIn_r _ [31, 32, 33, 34, 35, 36, 30, 37, 38, 39, 40, 41, 14, 42, 16, 43, 18, 19, 20, 21, 44, 12, 13, 15, 17, 61, 62, 63, 64, 65, 66] (by decide +kernel) (by decide +kernel)
set_option maxRecDepth 20000 in
theorem gX4_referring_X1_target : GoodIn wsX4_referring (wsV RX4 186 RX1 yX1_target wsX1_target) := goodIn_app (goodIn_of _ (by decide +kernel)) ggX4_referring_X1_target
theorem dX4_referring_0 : decode cX4_referring 0 = .ok (.iload_n 1, 1) := by decide +kernel
theorem dX4_referring_1 : decode cX4_referring 1 = .ok (.ifCond .lt 15, 3) := by decide +kernel
theorem dX4_referring_4 : decode cX4_referring 4 = .ok (.iload_n 1, 1) := by decide +kernel
theorem dX4_referring_5 : decode cX4_referring 5 = .ok (.aload_n 0, 1) := by decide +kernel
theorem dX4_referring_6 : decode cX4_referring 6 = .ok (.getfield 23, 3) := by decide +kernel
theorem dX4_referring_9 : decode cX4_referring 9 = .ok (.if_icmp .ge 7, 3) := by decide +kernel
theorem dX4_referring_12 : decode cX4_referring 12 = .ok (.iconst 1, 1) := by decide +kernel
theorem dX4_referring_13 : decode cX4_referring 13 = .ok (.goto 4, 3) := by decide +kernel
theorem dX4_referring_16 : decode cX4_referring 16 = .ok (.iconst 0, 1) := by decide +kernel
theorem dX4_referring_17 : decode cX4_referring 17 = .ok (.invokestatic 74, 3) := by decide +kernel
theorem dX4_referring_20 : decode cX4_referring 20 = .ok (.aload_n 0, 1) := by decide +kernel
theorem dX4_referring_21 : decode cX4_referring 21 = .ok (.getfield 53, 3) := by decide +kernel
theorem dX4_referring_24 : decode cX4_referring 24 = .ok (.aload_n 0, 1) := by decide +kernel
theorem dX4_referring_25 : decode cX4_referring 25 = .ok (.getfield 19, 3) := by decide +kernel
theorem dX4_referring_28 : decode cX4_referring 28 = .ok (.iload_n 1, 1) := by decide +kernel
theorem dX4_referring_29 : decode cX4_referring 29 = .ok (.aaload, 1) := by decide +kernel
theorem dX4_referring_30 : decode cX4_referring 30 = .ok (.getfield 183, 3) := by decide +kernel
theorem dX4_referring_33 : decode cX4_referring 33 = .ok (.iload_n 2, 1) := by decide +kernel
theorem dX4_referring_34 : decode cX4_referring 34 = .ok (.invokevirtual 156, 3) := by decide +kernel
theorem dX4_referring_37 : decode cX4_referring 37 = .ok (.istore_n 3, 1) := by decide +kernel
theorem dX4_referring_38 : decode cX4_referring 38 = .ok (.iload_n 3, 1) := by decide +kernel
theorem dX4_referring_39 : decode cX4_referring 39 = .ok (.iconst (-1), 1) := by decide +kernel
theorem dX4_referring_40 : decode cX4_referring 40 = .ok (.if_icmp .eq 7, 3) := by decide +kernel
theorem dX4_referring_43 : decode cX4_referring 43 = .ok (.iconst 1, 1) := by decide +kernel
theorem dX4_referring_44 : decode cX4_referring 44 = .ok (.goto 4, 3) := by decide +kernel
theorem dX4_referring_47 : decode cX4_referring 47 = .ok (.iconst 0, 1) := by decide +kernel
theorem dX4_referring_48 : decode cX4_referring 48 = .ok (.invokestatic 78, 3) := by decide +kernel
theorem dX4_referring_51 : decode cX4_referring 51 = .ok (.iconst 0, 1) := by decide +kernel
theorem dX4_referring_52 : decode cX4_referring 52 = .ok (.istore 4, 2) := by decide +kernel
theorem dX4_referring_54 : decode cX4_referring 54 = .ok (.iconst 0, 1) := by decide +kernel
theorem dX4_referring_55 : decode cX4_referring 55 = .ok (.istore 5, 2) := by decide +kernel
theorem dX4_referring_57 : decode cX4_referring 57 = .ok (.iload 5, 2) := by decide +kernel
theorem dX4_referring_59 : decode cX4_referring 59 = .ok (.bipush 24, 2) := by decide +kernel
theorem dX4_referring_61 : decode cX4_referring 61 = .ok (.if_icmp .ge 31, 3) := by decide +kernel
theorem dX4_referring_64 : decode cX4_referring 64 = .ok (.aload_n 0, 1) := by decide +kernel
theorem dX4_referring_65 : decode cX4_referring 65 = .ok (.getfield 19, 3) := by decide +kernel
theorem dX4_referring_68 : decode cX4_referring 68 = .ok (.iload_n 1, 1) := by decide +kernel
theorem dX4_referring_69 : decode cX4_referring 69 = .ok (.aaload, 1) := by decide +kernel
theorem dX4_referring_70 : decode cX4_referring 70 = .ok (.aload_n 0, 1) := by decide +kernel
theorem dX4_referring_71 : decode cX4_referring 71 = .ok (.getfield 53, 3) := by decide +kernel
theorem dX4_referring_74 : decode cX4_referring 74 = .ok (.iload 5, 2) := by decide +kernel
theorem dX4_referring_76 : decode cX4_referring 76 = .ok (.invokevirtual 186, 3) := by decide +kernel
theorem dX4_referring_79 : decode cX4_referring 79 = .ok (.iload_n 3, 1) := by decide +kernel
theorem dX4_referring_80 : decode cX4_referring 80 = .ok (.if_icmp .ne 6, 3) := by decide +kernel
theorem dX4_referring_83 : decode cX4_referring 83 = .ok (.iinc 4 1, 3) := by decide +kernel
theorem dX4_referring_86 : decode cX4_referring 86 = .ok (.iinc 5 1, 3) := by decide +kernel
theorem dX4_referring_89 : decode cX4_referring 89 = .ok (.goto (-32), 3) := by decide +kernel
theorem dX4_referring_92 : decode cX4_referring 92 = .ok (.iload 4, 2) := by decide +kernel
theorem dX4_referring_94 : decode cX4_referring 94 = .ok (.ireturn, 1) := by decide +kernel
theorem dX4_reason_0 : decode cX4_reason 0 = .ok (.aload_n 0, 1) := by decide +kernel
theorem dX4_reason_1 : decode cX4_reason 1 = .ok (.getfield 71, 3) := by decide +kernel
theorem dX4_reason_4 : decode cX4_reason 4 = .ok (.ireturn, 1) := by decide +kernel
theorem dX4_isTable_0 : decode cX4_isTable 0 = .ok (.iload_n 1, 1) := by decide +kernel
theorem dX4_isTable_1 : decode cX4_isTable 1 = .ok (.ifCond .lt 15, 3) := by decide +kernel
theorem dX4_isTable_4 : decode cX4_isTable 4 = .ok (.iload_n 1, 1) := by decide +kernel
theorem dX4_isTable_5 : decode cX4_isTable 5 = .ok (.aload_n 0, 1) := by decide +kernel
theorem dX4_isTable_6 : decode cX4_isTable 6 = .ok (.getfield 13, 3) := by decide +kernel
theorem dX4_isTable_9 : decode cX4_isTable 9 = .ok (.if_icmp .ge 7, 3) := by decide +kernel
theorem dX4_isTable_12 : decode cX4_isTable 12 = .ok (.iconst 1, 1) := by decide +kernel
theorem dX4_isTable_13 : decode cX4_isTable 13 = .ok (.goto 4, 3) := by decide +kernel
theorem dX4_isTable_16 : decode cX4_isTable 16 = .ok (.iconst 0, 1) := by decide +kernel
theorem dX4_isTable_17 : decode cX4_isTable 17 = .ok (.ireturn, 1) := by decide +kernel
set_option maxRecDepth 20000 in
theorem ggX4_isColumn_X4_isTable : GoodIn wsX4_isColumn wsX4_isTable := goodIn_r _ [6, 7, 8, 9, 10, 11, 12, 13, 14, 15, 16, 17, 18, 19, 20, 21, 22, 23] (by decide +kernel) (by decide +kernel)
set_option maxRecDepth 20000 in
theorem gX4_isColumn_X4_isTable : GoodIn wsX4_isColumn (wsV RX4 85 RX4 yX4_isTable wsX4_isTable) := goodIn_app (goodIn_of _ (by decide +kernel)) ggX4_isColumn_X4_isTable
theorem dX4_isColumn_0 : decode cX4_isColumn 0 = .ok (.aload_n 0, 1) := by decide +kernel
theorem dX4_isColumn_1 : decode cX4_isColumn 1 = .ok (.iload_n 1, 1) := by decide +kernel
theorem dX4_isColumn_2 : decode cX4_isColumn 2 = .ok (.invokevirtual 85, 3) := by decide +kernel
theorem dX4_isColumn_5 : decode cX4_isColumn 5 = .ok (.ifCond .eq 21, 3) := by decide +kernel
theorem dX4_isColumn_8 : decode cX4_isColumn 8 = .ok (.iload_n 2, 1) := by decide +kernel
theorem dX4_isColumn_9 : decode cX4_isColumn 9 = .ok (.ifCond .lt 17, 3) := by decide +kernel
theorem dX4_isColumn_12 : decode cX4_isColumn 12 = .ok (.iload_n 2, 1) := by decide +kernel
theorem dX4_isColumn_13 : decode cX4_isColumn 13 = .ok (.aload_n 0, 1) := by decide +kernel
theorem dX4_isColumn_14 : decode cX4_isColumn 14 = .ok (.getfield 9, 3) := by decide +kernel
theorem dX4_isColumn_17 : decode cX4_isColumn 17 = .ok (.iload_n 1, 1) := by decide +kernel
theorem dX4_isColumn_18 : decode cX4_isColumn 18 = .ok (.iaload, 1) := by decide +kernel
theorem dX4_isColumn_19 : decode cX4_isColumn 19 = .ok (.if_icmp .ge 7, 3) := by decide +kernel
theorem dX4_isColumn_22 : decode cX4_isColumn 22 = .ok (.iconst 1, 1) := by decide +kernel
theorem dX4_isColumn_23 : decode cX4_isColumn 23 = .ok (.goto 4, 3) := by decide +kernel
theorem dX4_isColumn_26 : decode cX4_isColumn 26 = .ok (.iconst 0, 1) := by decide +kernel
theorem dX4_isColumn_27 : decode cX4_isColumn 27 = .ok (.ireturn, 1) := by decide +kernel
set_option maxRecDepth 20000 in
theorem ggX4_isCellColumn_X4_isColumn : GoodIn wsX4_isCellColumn wsX4_isColumn := goodIn_r _ [5, 6, 7, 8, 9, 4, 10, 11, 12, 13, 14, 15, 16, 17, 18, 19, 20, 21, 22, 23, 24, 25, 26, 27] (by decide +kernel) (by decide +kernel)
set_option maxRecDepth 20000 in
theorem gX4_isCellColumn_X4_isColumn : GoodIn wsX4_isCellColumn (wsV RX4 140 RX4 yX4_isColumn wsX4_isColumn) := goodIn_app (goodIn_of _ (by decide +kernel)) ggX4_isCellColumn_X4_isColumn
theorem dX4_isCellColumn_0 : decode cX4_isCellColumn 0 = .ok (.aload_n 0, 1) := by decide +kernel
theorem dX4_isCellColumn_1 : decode cX4_isCellColumn 1 = .ok (.iload_n 1, 1) := by decide +kernel
theorem dX4_isCellColumn_2 : decode cX4_isCellColumn 2 = .ok (.iload_n 2, 1) := by decide +kernel
theorem dX4_isCellColumn_3 : decode cX4_isCellColumn 3 = .ok (.invokevirtual 140, 3) := by decide +kernel
theorem dX4_isCellColumn_6 : decode cX4_isCellColumn 6 = .ok (.ifCond .eq 11, 3) := by decide +kernel
theorem dX4_isCellColumn_9 : decode cX4_isCellColumn 9 = .ok (.iload_n 2, 1) := by decide +kernel
theorem dX4_isCellColumn_10 : decode cX4_isCellColumn 10 = .ok (.ifCond .eq 7, 3) := by decide +kernel
theorem dX4_isCellColumn_13 : decode cX4_isCellColumn 13 = .ok (.iconst 1, 1) := by decide +kernel
theorem dX4_isCellColumn_14 : decode cX4_isCellColumn 14 = .ok (.goto 4, 3) := by decide +kernel
theorem dX4_isCellColumn_17 : decode cX4_isCellColumn 17 = .ok (.iconst 0, 1) := by decide +kernel
theorem dX4_isCellColumn_18 : decode cX4_isCellColumn 18 = .ok (.ireturn, 1) := by decide +kernel
theorem dX4_needArgument_0 : decode cX4_needArgument 0 = .ok (.iload_n 0, 1) := by decide +kernel
theorem dX4_needArgument_1 : decode cX4_needArgument 1 = .ok (.ifCond .ne 11, 3) := by decide +kernel
theorem dX4_needArgument_4 : decode cX4_needArgument 4 = .ok (.new 190, 3) := by decide +kernel
theorem dX4_needArgument_7 : decode cX4_needArgument 7 = .ok (.dup, 1) := by decide +kernel
theorem dX4_needArgument_8 : decode cX4_needArgument 8 = .ok (.invokespecial 192, 3) := by decide +kernel
theorem dX4_needArgument_11 : decode cX4_needArgument 11 = .ok (.athrow, 1) := by decide +kernel
theorem dX4_needArgument_12 : decode cX4_needArgument 12 = .ok (.return_, 1) := by decide +kernel
theorem dX4_needElement_0 : decode cX4_needElement 0 = .ok (.iload_n 0, 1) := by decide +kernel
theorem dX4_needElement_1 : decode cX4_needElement 1 = .ok (.ifCond .ne 11, 3) := by decide +kernel
theorem dX4_needElement_4 : decode cX4_needElement 4 = .ok (.new 193, 3) := by decide +kernel
theorem dX4_needElement_7 : decode cX4_needElement 7 = .ok (.dup, 1) := by decide +kernel
theorem dX4_needElement_8 : decode cX4_needElement 8 = .ok (.invokespecial 195, 3) := by decide +kernel
theorem dX4_needElement_11 : decode cX4_needElement 11 = .ok (.athrow, 1) := by decide +kernel
theorem dX4_needElement_12 : decode cX4_needElement 12 = .ok (.return_, 1) := by decide +kernel
theorem dX4_refuseIf_0 : decode cX4_refuseIf 0 = .ok (.iload_n 1, 1) := by decide +kernel
theorem dX4_refuseIf_1 : decode cX4_refuseIf 1 = .ok (.ifCond .eq 16, 3) := by decide +kernel
theorem dX4_refuseIf_4 : decode cX4_refuseIf 4 = .ok (.aload_n 0, 1) := by decide +kernel
theorem dX4_refuseIf_5 : decode cX4_refuseIf 5 = .ok (.iload_n 2, 1) := by decide +kernel
theorem dX4_refuseIf_6 : decode cX4_refuseIf 6 = .ok (.putfield 71, 3) := by decide +kernel
theorem dX4_refuseIf_9 : decode cX4_refuseIf 9 = .ok (.new 196, 3) := by decide +kernel
theorem dX4_refuseIf_12 : decode cX4_refuseIf 12 = .ok (.dup, 1) := by decide +kernel
theorem dX4_refuseIf_13 : decode cX4_refuseIf 13 = .ok (.invokespecial 198, 3) := by decide +kernel
theorem dX4_refuseIf_16 : decode cX4_refuseIf 16 = .ok (.athrow, 1) := by decide +kernel
theorem dX4_refuseIf_17 : decode cX4_refuseIf 17 = .ok (.return_, 1) := by decide +kernel
set_option maxRecDepth 20000 in
theorem ggX4_settle_X4_whyBroken : GoodIn wsX4_settle wsX4_whyBroken := goodIn_r _ [7, 8, 9, 10, 11, 12, 13, 14, 15, 16, 17, 18, 19, 20, 21, 22, 23, 24, 25, 26, 27, 28, 29, 30, 31, 32, 33, 34, 35, 36, 37, 38, 39, 40, 41, 42, 43, 44, 45, 46, 47, 48, 49, 50, 51, 52, 53, 54, 55, 56, 57, 58, 59, 60, 61, 62, 63, 64, 65, 66, 67, 68, 69, 70, 71, 72, 73, 74, 75, 76, 77, 78, 79, 80, 81, 82, 83, 84, 85, 86, 102, 103, 104, 105, 106, 107, 108, 109, 110, 111, 112, 113, 114, 115, 116, 117, 118, 119, 120, 121, 122, 123, 124, 125, 126, 127, 128] (by decide +kernel) (by decide +kernel)
set_option maxRecDepth 20000 in
theorem gX4_settle_X4_whyBroken : GoodIn wsX4_settle (wsV RX4 173 RX4 yX4_whyBroken wsX4_whyBroken) := goodIn_app (goodIn_of _ (by decide +kernel)) ggX4_settle_X4_whyBroken
set_option maxRecDepth 20000 in
theorem ggX4_settle_X4_refuseIf : GoodIn wsX4_settle wsX4_refuseIf := goodIn_ca (goodIn_r _ [90, 91, 92, 93, 102, 103, 104, 105, 106, 107, 108, 109, 110, 111, 112, 113, 114, 115, 116, 117] (by decide +kernel) (by decide +kernel)) (goodIn_sub (fun _ h => List.mem_cons_of_mem _ (List.mem_append_right _ h)) (by decide +kernel))
set_option maxRecDepth 20000 in
theorem gX4_settle_X4_refuseIf : GoodIn wsX4_settle (wsV RX4 96 RX4 yX4_refuseIf wsX4_refuseIf) := goodIn_app (goodIn_of _ (by decide +kernel)) ggX4_settle_X4_refuseIf
set_option maxRecDepth 20000 in
theorem ggX4_settle_X2_become : GoodIn wsX4_settle wsX2_become := goodIn_r _ [97, 20, 98, 99, 100, 101, 25, 118, 119] (by decide +kernel) (by decide +kernel)
set_option maxRecDepth 20000 in
theorem gX4_settle_X2_become : GoodIn wsX4_settle (wsV RX4 125 RX2 yX2_become wsX2_become) := goodIn_app (goodIn_of _ (by decide +kernel)) ggX4_settle_X2_become
theorem dX4_settle_0 : decode cX4_settle 0 = .ok (.iload_n 1, 1) := by decide +kernel
theorem dX4_settle_1 : decode cX4_settle 1 = .ok (.iconst (-1), 1) := by decide +kernel
theorem dX4_settle_2 : decode cX4_settle 2 = .ok (.if_icmp .ne 14, 3) := by decide +kernel
theorem dX4_settle_5 : decode cX4_settle 5 = .ok (.aload_n 0, 1) := by decide +kernel
theorem dX4_settle_6 : decode cX4_settle 6 = .ok (.aload_n 0, 1) := by decide +kernel
theorem dX4_settle_7 : decode cX4_settle 7 = .ok (.getfield 57, 3) := by decide +kernel
theorem dX4_settle_10 : decode cX4_settle 10 = .ok (.invokevirtual 173, 3) := by decide +kernel
theorem dX4_settle_13 : decode cX4_settle 13 = .ok (.goto 7, 3) := by decide +kernel
theorem dX4_settle_16 : decode cX4_settle 16 = .ok (.bipush 100, 2) := by decide +kernel
theorem dX4_settle_18 : decode cX4_settle 18 = .ok (.iload_n 1, 1) := by decide +kernel
theorem dX4_settle_19 : decode cX4_settle 19 = .ok (.iadd, 1) := by decide +kernel
theorem dX4_settle_20 : decode cX4_settle 20 = .ok (.istore_n 2, 1) := by decide +kernel
theorem dX4_settle_21 : decode cX4_settle 21 = .ok (.aload_n 0, 1) := by decide +kernel
theorem dX4_settle_22 : decode cX4_settle 22 = .ok (.iload_n 2, 1) := by decide +kernel
theorem dX4_settle_23 : decode cX4_settle 23 = .ok (.ifCond .eq 7, 3) := by decide +kernel
theorem dX4_settle_26 : decode cX4_settle 26 = .ok (.iconst 1, 1) := by decide +kernel
theorem dX4_settle_27 : decode cX4_settle 27 = .ok (.goto 4, 3) := by decide +kernel
theorem dX4_settle_30 : decode cX4_settle 30 = .ok (.iconst 0, 1) := by decide +kernel
theorem dX4_settle_31 : decode cX4_settle 31 = .ok (.iload_n 2, 1) := by decide +kernel
theorem dX4_settle_32 : decode cX4_settle 32 = .ok (.invokevirtual 96, 3) := by decide +kernel
theorem dX4_settle_35 : decode cX4_settle 35 = .ok (.aload_n 0, 1) := by decide +kernel
theorem dX4_settle_36 : decode cX4_settle 36 = .ok (.getfield 53, 3) := by decide +kernel
theorem dX4_settle_39 : decode cX4_settle 39 = .ok (.aload_n 0, 1) := by decide +kernel
theorem dX4_settle_40 : decode cX4_settle 40 = .ok (.getfield 57, 3) := by decide +kernel
theorem dX4_settle_43 : decode cX4_settle 43 = .ok (.invokevirtual 125, 3) := by decide +kernel
theorem dX4_settle_46 : decode cX4_settle 46 = .ok (.return_, 1) := by decide +kernel
set_option maxRecDepth 20000 in
theorem ggX4_whyBroken_X2_hasTwins : GoodIn wsX4_whyBroken wsX2_hasTwins := goodIn_r _ [12, 13, 14, 15, 16, 11, 17, 18, 19, 20, 21, 22, 96, 97] (by decide +kernel) (by decide +kernel)
set_option maxRecDepth 20000 in
theorem gX4_whyBroken_X2_hasTwins : GoodIn wsX4_whyBroken (wsV RX4 199 RX2 yX2_hasTwins wsX2_hasTwins) := goodIn_app (goodIn_of _ (by decide +kernel)) ggX4_whyBroken_X2_hasTwins
set_option maxRecDepth 20000 in
theorem ggX4_whyBroken_X3_isBroken : GoodIn wsX4_whyBroken wsX3_isBroken := goodIn_r _ [27, 28, 29, 30, 9, 10, 11, 12, 13, 14, 15, 16, 17, 18, 19, 20, 21, 22, 98, 99, 96, 97] (by decide +kernel) (by decide +kernel)
set_option maxRecDepth 20000 in
theorem gX4_whyBroken_X3_isBroken : GoodIn wsX4_whyBroken (wsV RX4 103 RX3 yX3_isBroken wsX3_isBroken) := goodIn_app (goodIn_of _ (by decide +kernel)) ggX4_whyBroken_X3_isBroken
set_option maxRecDepth 20000 in
theorem ggX4_whyBroken_X1_isBroken : GoodIn wsX4_whyBroken wsX1_isBroken := goodIn_r _ [35, 36, 37, 38, 34, 39, 40, 41, 42, 43, 44, 11, 45, 13, 46, 15, 16, 17, 18, 47, 48, 49, 50, 51, 52, 53, 54, 55, 14, 100, 101, 102, 103, 96, 97] (by decide +kernel) (by decide +kernel)
set_option maxRecDepth 20000 in
theorem gX4_whyBroken_X1_isBroken : GoodIn wsX4_whyBroken (wsV RX4 92 RX1 yX1_isBroken wsX1_isBroken) := goodIn_app (goodIn_of _ (by decide +kernel)) ggX4_whyBroken_X1_isBroken
set_option maxRecDepth 20000 in
theorem ggX4_whyBroken_X0_isBroken : GoodIn wsX4_whyBroken wsX0_isBroken := goodIn_r _ [60, 61, 62, 43, 44, 11, 45, 13, 63, 64, 65, 59, 66, 67, 68, 69, 70, 71, 72, 73, 74, 75, 15, 16, 17, 18, 76, 77, 78, 79, 104, 105, 106, 96, 97] (by decide +kernel) (by decide +kernel)
set_option maxRecDepth 20000 in
theorem gX4_whyBroken_X0_isBroken : GoodIn wsX4_whyBroken (wsV RX4 120 RX0 yX0_isBroken wsX0_isBroken) := goodIn_app (goodIn_of _ (by decide +kernel)) ggX4_whyBroken_X0_isBroken
theorem dX4_whyBroken_0 : decode cX4_whyBroken 0 = .ok (.iconst 0, 1) := by decide +kernel
theorem dX4_whyBroken_1 : decode cX4_whyBroken 1 = .ok (.istore_n 2, 1) := by decide +kernel
theorem dX4_whyBroken_2 : decode cX4_whyBroken 2 = .ok (.iload_n 2, 1) := by decide +kernel
theorem dX4_whyBroken_3 : decode cX4_whyBroken 3 = .ok (.aload_n 0, 1) := by decide +kernel
theorem dX4_whyBroken_4 : decode cX4_whyBroken 4 = .ok (.getfield 13, 3) := by decide +kernel
theorem dX4_whyBroken_7 : decode cX4_whyBroken 7 = .ok (.if_icmp .ge 24, 3) := by decide +kernel
theorem dX4_whyBroken_10 : decode cX4_whyBroken 10 = .ok (.aload_n 1, 1) := by decide +kernel
theorem dX4_whyBroken_11 : decode cX4_whyBroken 11 = .ok (.iload_n 2, 1) := by decide +kernel
theorem dX4_whyBroken_12 : decode cX4_whyBroken 12 = .ok (.iconst 0, 1) := by decide +kernel
theorem dX4_whyBroken_13 : decode cX4_whyBroken 13 = .ok (.invokevirtual 199, 3) := by decide +kernel
theorem dX4_whyBroken_16 : decode cX4_whyBroken 16 = .ok (.ifCond .eq 9, 3) := by decide +kernel
theorem dX4_whyBroken_19 : decode cX4_whyBroken 19 = .ok (.sipush 200, 3) := by decide +kernel
theorem dX4_whyBroken_22 : decode cX4_whyBroken 22 = .ok (.iload_n 2, 1) := by decide +kernel
theorem dX4_whyBroken_23 : decode cX4_whyBroken 23 = .ok (.iadd, 1) := by decide +kernel
theorem dX4_whyBroken_24 : decode cX4_whyBroken 24 = .ok (.ireturn, 1) := by decide +kernel
theorem dX4_whyBroken_25 : decode cX4_whyBroken 25 = .ok (.iinc 2 1, 3) := by decide +kernel
theorem dX4_whyBroken_28 : decode cX4_whyBroken 28 = .ok (.goto (-26), 3) := by decide +kernel
theorem dX4_whyBroken_31 : decode cX4_whyBroken 31 = .ok (.iconst 0, 1) := by decide +kernel
theorem dX4_whyBroken_32 : decode cX4_whyBroken 32 = .ok (.istore_n 2, 1) := by decide +kernel
theorem dX4_whyBroken_33 : decode cX4_whyBroken 33 = .ok (.iload_n 2, 1) := by decide +kernel
theorem dX4_whyBroken_34 : decode cX4_whyBroken 34 = .ok (.aload_n 0, 1) := by decide +kernel
theorem dX4_whyBroken_35 : decode cX4_whyBroken 35 = .ok (.getfield 32, 3) := by decide +kernel
theorem dX4_whyBroken_38 : decode cX4_whyBroken 38 = .ok (.if_icmp .ge 28, 3) := by decide +kernel
theorem dX4_whyBroken_41 : decode cX4_whyBroken 41 = .ok (.aload_n 0, 1) := by decide +kernel
theorem dX4_whyBroken_42 : decode cX4_whyBroken 42 = .ok (.getfield 28, 3) := by decide +kernel
theorem dX4_whyBroken_45 : decode cX4_whyBroken 45 = .ok (.iload_n 2, 1) := by decide +kernel
theorem dX4_whyBroken_46 : decode cX4_whyBroken 46 = .ok (.aaload, 1) := by decide +kernel
theorem dX4_whyBroken_47 : decode cX4_whyBroken 47 = .ok (.aload_n 1, 1) := by decide +kernel
theorem dX4_whyBroken_48 : decode cX4_whyBroken 48 = .ok (.invokevirtual 103, 3) := by decide +kernel
theorem dX4_whyBroken_51 : decode cX4_whyBroken 51 = .ok (.ifCond .eq 9, 3) := by decide +kernel
theorem dX4_whyBroken_54 : decode cX4_whyBroken 54 = .ok (.sipush 300, 3) := by decide +kernel
theorem dX4_whyBroken_57 : decode cX4_whyBroken 57 = .ok (.iload_n 2, 1) := by decide +kernel
theorem dX4_whyBroken_58 : decode cX4_whyBroken 58 = .ok (.iadd, 1) := by decide +kernel
theorem dX4_whyBroken_59 : decode cX4_whyBroken 59 = .ok (.ireturn, 1) := by decide +kernel
theorem dX4_whyBroken_60 : decode cX4_whyBroken 60 = .ok (.iinc 2 1, 3) := by decide +kernel
theorem dX4_whyBroken_63 : decode cX4_whyBroken 63 = .ok (.goto (-30), 3) := by decide +kernel
theorem dX4_whyBroken_66 : decode cX4_whyBroken 66 = .ok (.iconst 0, 1) := by decide +kernel
theorem dX4_whyBroken_67 : decode cX4_whyBroken 67 = .ok (.istore_n 2, 1) := by decide +kernel
theorem dX4_whyBroken_68 : decode cX4_whyBroken 68 = .ok (.iload_n 2, 1) := by decide +kernel
theorem dX4_whyBroken_69 : decode cX4_whyBroken 69 = .ok (.aload_n 0, 1) := by decide +kernel
theorem dX4_whyBroken_70 : decode cX4_whyBroken 70 = .ok (.getfield 23, 3) := by decide +kernel
theorem dX4_whyBroken_73 : decode cX4_whyBroken 73 = .ok (.if_icmp .ge 28, 3) := by decide +kernel
theorem dX4_whyBroken_76 : decode cX4_whyBroken 76 = .ok (.aload_n 0, 1) := by decide +kernel
theorem dX4_whyBroken_77 : decode cX4_whyBroken 77 = .ok (.getfield 19, 3) := by decide +kernel
theorem dX4_whyBroken_80 : decode cX4_whyBroken 80 = .ok (.iload_n 2, 1) := by decide +kernel
theorem dX4_whyBroken_81 : decode cX4_whyBroken 81 = .ok (.aaload, 1) := by decide +kernel
theorem dX4_whyBroken_82 : decode cX4_whyBroken 82 = .ok (.aload_n 1, 1) := by decide +kernel
theorem dX4_whyBroken_83 : decode cX4_whyBroken 83 = .ok (.invokevirtual 92, 3) := by decide +kernel
theorem dX4_whyBroken_86 : decode cX4_whyBroken 86 = .ok (.ifCond .eq 9, 3) := by decide +kernel
theorem dX4_whyBroken_89 : decode cX4_whyBroken 89 = .ok (.sipush 400, 3) := by decide +kernel
theorem dX4_whyBroken_92 : decode cX4_whyBroken 92 = .ok (.iload_n 2, 1) := by decide +kernel
theorem dX4_whyBroken_93 : decode cX4_whyBroken 93 = .ok (.iadd, 1) := by decide +kernel
theorem dX4_whyBroken_94 : decode cX4_whyBroken 94 = .ok (.ireturn, 1) := by decide +kernel
theorem dX4_whyBroken_95 : decode cX4_whyBroken 95 = .ok (.iinc 2 1, 3) := by decide +kernel
theorem dX4_whyBroken_98 : decode cX4_whyBroken 98 = .ok (.goto (-30), 3) := by decide +kernel
theorem dX4_whyBroken_101 : decode cX4_whyBroken 101 = .ok (.iconst 0, 1) := by decide +kernel
theorem dX4_whyBroken_102 : decode cX4_whyBroken 102 = .ok (.istore_n 2, 1) := by decide +kernel
theorem dX4_whyBroken_103 : decode cX4_whyBroken 103 = .ok (.iload_n 2, 1) := by decide +kernel
theorem dX4_whyBroken_104 : decode cX4_whyBroken 104 = .ok (.aload_n 0, 1) := by decide +kernel
theorem dX4_whyBroken_105 : decode cX4_whyBroken 105 = .ok (.getfield 41, 3) := by decide +kernel
theorem dX4_whyBroken_108 : decode cX4_whyBroken 108 = .ok (.if_icmp .ge 28, 3) := by decide +kernel
theorem dX4_whyBroken_111 : decode cX4_whyBroken 111 = .ok (.aload_n 0, 1) := by decide +kernel
theorem dX4_whyBroken_112 : decode cX4_whyBroken 112 = .ok (.getfield 37, 3) := by decide +kernel
theorem dX4_whyBroken_115 : decode cX4_whyBroken 115 = .ok (.iload_n 2, 1) := by decide +kernel
theorem dX4_whyBroken_116 : decode cX4_whyBroken 116 = .ok (.aaload, 1) := by decide +kernel
theorem dX4_whyBroken_117 : decode cX4_whyBroken 117 = .ok (.aload_n 1, 1) := by decide +kernel
theorem dX4_whyBroken_118 : decode cX4_whyBroken 118 = .ok (.invokevirtual 120, 3) := by decide +kernel
theorem dX4_whyBroken_121 : decode cX4_whyBroken 121 = .ok (.ifCond .eq 9, 3) := by decide +kernel
theorem dX4_whyBroken_124 : decode cX4_whyBroken 124 = .ok (.sipush 500, 3) := by decide +kernel
theorem dX4_whyBroken_127 : decode cX4_whyBroken 127 = .ok (.iload_n 2, 1) := by decide +kernel
theorem dX4_whyBroken_128 : decode cX4_whyBroken 128 = .ok (.iadd, 1) := by decide +kernel
theorem dX4_whyBroken_129 : decode cX4_whyBroken 129 = .ok (.ireturn, 1) := by decide +kernel
theorem dX4_whyBroken_130 : decode cX4_whyBroken 130 = .ok (.iinc 2 1, 3) := by decide +kernel
theorem dX4_whyBroken_133 : decode cX4_whyBroken 133 = .ok (.goto (-30), 3) := by decide +kernel
theorem dX4_whyBroken_136 : decode cX4_whyBroken 136 = .ok (.iconst 0, 1) := by decide +kernel
theorem dX4_whyBroken_137 : decode cX4_whyBroken 137 = .ok (.ireturn, 1) := by decide +kernel
set_option maxRecDepth 20000 in
theorem ggX4_markGoing_X2_holds : GoodIn wsX4_markGoing wsX2_holds := goodIn_r _ [7, 8, 30, 31] (by decide +kernel) (by decide +kernel)
set_option maxRecDepth 20000 in
theorem gX4_markGoing_X2_holds : GoodIn wsX4_markGoing (wsV RX4 166 RX2 yX2_holds wsX2_holds) := goodIn_app (goodIn_of _ (by decide +kernel)) ggX4_markGoing_X2_holds
set_option maxRecDepth 20000 in
theorem ggX4_markGoing_X2_at : GoodIn wsX4_markGoing wsX2_at := goodIn_r _ [12, 13, 30, 31] (by decide +kernel) (by decide +kernel)
set_option maxRecDepth 20000 in
theorem gX4_markGoing_X2_at : GoodIn wsX4_markGoing (wsV RX4 160 RX2 yX2_at wsX2_at) := goodIn_app (goodIn_of _ (by decide +kernel)) ggX4_markGoing_X2_at
theorem dX4_markGoing_0 : decode cX4_markGoing 0 = .ok (.iconst 0, 1) := by decide +kernel
theorem dX4_markGoing_1 : decode cX4_markGoing 1 = .ok (.istore 4, 2) := by decide +kernel
theorem dX4_markGoing_3 : decode cX4_markGoing 3 = .ok (.iload 4, 2) := by decide +kernel
theorem dX4_markGoing_5 : decode cX4_markGoing 5 = .ok (.bipush 24, 2) := by decide +kernel
theorem dX4_markGoing_7 : decode cX4_markGoing 7 = .ok (.if_icmp .ge 48, 3) := by decide +kernel
theorem dX4_markGoing_10 : decode cX4_markGoing 10 = .ok (.aload_n 0, 1) := by decide +kernel
theorem dX4_markGoing_11 : decode cX4_markGoing 11 = .ok (.getfield 67, 3) := by decide +kernel
theorem dX4_markGoing_14 : decode cX4_markGoing 14 = .ok (.iload 4, 2) := by decide +kernel
theorem dX4_markGoing_16 : decode cX4_markGoing 16 = .ok (.aload_n 0, 1) := by decide +kernel
theorem dX4_markGoing_17 : decode cX4_markGoing 17 = .ok (.getfield 53, 3) := by decide +kernel
theorem dX4_markGoing_20 : decode cX4_markGoing 20 = .ok (.iload 4, 2) := by decide +kernel
theorem dX4_markGoing_22 : decode cX4_markGoing 22 = .ok (.iload_n 1, 1) := by decide +kernel
theorem dX4_markGoing_23 : decode cX4_markGoing 23 = .ok (.invokevirtual 166, 3) := by decide +kernel
theorem dX4_markGoing_26 : decode cX4_markGoing 26 = .ok (.ifCond .eq 21, 3) := by decide +kernel
theorem dX4_markGoing_29 : decode cX4_markGoing 29 = .ok (.aload_n 0, 1) := by decide +kernel
theorem dX4_markGoing_30 : decode cX4_markGoing 30 = .ok (.getfield 53, 3) := by decide +kernel
theorem dX4_markGoing_33 : decode cX4_markGoing 33 = .ok (.iload 4, 2) := by decide +kernel
theorem dX4_markGoing_35 : decode cX4_markGoing 35 = .ok (.iload_n 2, 1) := by decide +kernel
theorem dX4_markGoing_36 : decode cX4_markGoing 36 = .ok (.invokevirtual 160, 3) := by decide +kernel
theorem dX4_markGoing_39 : decode cX4_markGoing 39 = .ok (.iload_n 3, 1) := by decide +kernel
theorem dX4_markGoing_40 : decode cX4_markGoing 40 = .ok (.if_icmp .ne 7, 3) := by decide +kernel
theorem dX4_markGoing_43 : decode cX4_markGoing 43 = .ok (.iconst 1, 1) := by decide +kernel
theorem dX4_markGoing_44 : decode cX4_markGoing 44 = .ok (.goto 4, 3) := by decide +kernel
theorem dX4_markGoing_47 : decode cX4_markGoing 47 = .ok (.iconst 0, 1) := by decide +kernel
theorem dX4_markGoing_48 : decode cX4_markGoing 48 = .ok (.bastore, 1) := by decide +kernel
theorem dX4_markGoing_49 : decode cX4_markGoing 49 = .ok (.iinc 4 1, 3) := by decide +kernel
theorem dX4_markGoing_52 : decode cX4_markGoing 52 = .ok (.goto (-49), 3) := by decide +kernel
theorem dX4_markGoing_55 : decode cX4_markGoing 55 = .ok (.return_, 1) := by decide +kernel
set_option maxRecDepth 20000 in
theorem ggX4_spreadGoing_X4_losesTarget : GoodIn wsX4_spreadGoing wsX4_losesTarget := goodIn_r _ [9, 10, 4, 11, 12, 13, 14, 15, 16, 17, 18, 19, 20, 21, 22, 23, 24, 25, 26, 27, 28, 29, 30, 31, 32, 33, 34, 35, 36, 37, 38, 39, 40, 41, 42, 43, 44, 45, 46, 47, 48, 49, 50, 51, 52, 53, 54, 55, 56, 57, 58, 59, 60] (by decide +kernel) (by decide +kernel)
set_option maxRecDepth 20000 in
theorem gX4_spreadGoing_X4_losesTarget : GoodIn wsX4_spreadGoing (wsV RX4 205 RX4 yX4_losesTarget wsX4_losesTarget) := goodIn_app (goodIn_of _ (by decide +kernel)) ggX4_spreadGoing_X4_losesTarget
theorem dX4_spreadGoing_0 : decode cX4_spreadGoing 0 = .ok (.iconst 0, 1) := by decide +kernel
theorem dX4_spreadGoing_1 : decode cX4_spreadGoing 1 = .ok (.istore_n 1, 1) := by decide +kernel
theorem dX4_spreadGoing_2 : decode cX4_spreadGoing 2 = .ok (.iconst 0, 1) := by decide +kernel
theorem dX4_spreadGoing_3 : decode cX4_spreadGoing 3 = .ok (.istore_n 2, 1) := by decide +kernel
theorem dX4_spreadGoing_4 : decode cX4_spreadGoing 4 = .ok (.iload_n 2, 1) := by decide +kernel
theorem dX4_spreadGoing_5 : decode cX4_spreadGoing 5 = .ok (.aload_n 0, 1) := by decide +kernel
theorem dX4_spreadGoing_6 : decode cX4_spreadGoing 6 = .ok (.getfield 23, 3) := by decide +kernel
theorem dX4_spreadGoing_9 : decode cX4_spreadGoing 9 = .ok (.if_icmp .ge 68, 3) := by decide +kernel
theorem dX4_spreadGoing_12 : decode cX4_spreadGoing 12 = .ok (.iconst 0, 1) := by decide +kernel
theorem dX4_spreadGoing_13 : decode cX4_spreadGoing 13 = .ok (.istore_n 3, 1) := by decide +kernel
theorem dX4_spreadGoing_14 : decode cX4_spreadGoing 14 = .ok (.iload_n 3, 1) := by decide +kernel
theorem dX4_spreadGoing_15 : decode cX4_spreadGoing 15 = .ok (.bipush 24, 2) := by decide +kernel
theorem dX4_spreadGoing_17 : decode cX4_spreadGoing 17 = .ok (.if_icmp .ge 54, 3) := by decide +kernel
theorem dX4_spreadGoing_20 : decode cX4_spreadGoing 20 = .ok (.aload_n 0, 1) := by decide +kernel
theorem dX4_spreadGoing_21 : decode cX4_spreadGoing 21 = .ok (.getfield 19, 3) := by decide +kernel
theorem dX4_spreadGoing_24 : decode cX4_spreadGoing 24 = .ok (.iload_n 2, 1) := by decide +kernel
theorem dX4_spreadGoing_25 : decode cX4_spreadGoing 25 = .ok (.aaload, 1) := by decide +kernel
theorem dX4_spreadGoing_26 : decode cX4_spreadGoing 26 = .ok (.getfield 202, 3) := by decide +kernel
theorem dX4_spreadGoing_29 : decode cX4_spreadGoing 29 = .ok (.iconst 1, 1) := by decide +kernel
theorem dX4_spreadGoing_30 : decode cX4_spreadGoing 30 = .ok (.if_icmp .ne 35, 3) := by decide +kernel
theorem dX4_spreadGoing_33 : decode cX4_spreadGoing 33 = .ok (.aload_n 0, 1) := by decide +kernel
theorem dX4_spreadGoing_34 : decode cX4_spreadGoing 34 = .ok (.getfield 67, 3) := by decide +kernel
theorem dX4_spreadGoing_37 : decode cX4_spreadGoing 37 = .ok (.iload_n 3, 1) := by decide +kernel
theorem dX4_spreadGoing_38 : decode cX4_spreadGoing 38 = .ok (.baload, 1) := by decide +kernel
theorem dX4_spreadGoing_39 : decode cX4_spreadGoing 39 = .ok (.ifCond .ne 26, 3) := by decide +kernel
theorem dX4_spreadGoing_42 : decode cX4_spreadGoing 42 = .ok (.aload_n 0, 1) := by decide +kernel
theorem dX4_spreadGoing_43 : decode cX4_spreadGoing 43 = .ok (.aload_n 0, 1) := by decide +kernel
theorem dX4_spreadGoing_44 : decode cX4_spreadGoing 44 = .ok (.getfield 19, 3) := by decide +kernel
theorem dX4_spreadGoing_47 : decode cX4_spreadGoing 47 = .ok (.iload_n 2, 1) := by decide +kernel
theorem dX4_spreadGoing_48 : decode cX4_spreadGoing 48 = .ok (.aaload, 1) := by decide +kernel
theorem dX4_spreadGoing_49 : decode cX4_spreadGoing 49 = .ok (.iload_n 3, 1) := by decide +kernel
theorem dX4_spreadGoing_50 : decode cX4_spreadGoing 50 = .ok (.invokevirtual 205, 3) := by decide +kernel
theorem dX4_spreadGoing_53 : decode cX4_spreadGoing 53 = .ok (.ifCond .eq 12, 3) := by decide +kernel
theorem dX4_spreadGoing_56 : decode cX4_spreadGoing 56 = .ok (.aload_n 0, 1) := by decide +kernel
theorem dX4_spreadGoing_57 : decode cX4_spreadGoing 57 = .ok (.getfield 67, 3) := by decide +kernel
theorem dX4_spreadGoing_60 : decode cX4_spreadGoing 60 = .ok (.iload_n 3, 1) := by decide +kernel
theorem dX4_spreadGoing_61 : decode cX4_spreadGoing 61 = .ok (.iconst 1, 1) := by decide +kernel
theorem dX4_spreadGoing_62 : decode cX4_spreadGoing 62 = .ok (.bastore, 1) := by decide +kernel
theorem dX4_spreadGoing_63 : decode cX4_spreadGoing 63 = .ok (.iconst 1, 1) := by decide +kernel
theorem dX4_spreadGoing_64 : decode cX4_spreadGoing 64 = .ok (.istore_n 1, 1) := by decide +kernel
theorem dX4_spreadGoing_65 : decode cX4_spreadGoing 65 = .ok (.iinc 3 1, 3) := by decide +kernel
theorem dX4_spreadGoing_68 : decode cX4_spreadGoing 68 = .ok (.goto (-54), 3) := by decide +kernel
theorem dX4_spreadGoing_71 : decode cX4_spreadGoing 71 = .ok (.iinc 2 1, 3) := by decide +kernel
theorem dX4_spreadGoing_74 : decode cX4_spreadGoing 74 = .ok (.goto (-70), 3) := by decide +kernel
theorem dX4_spreadGoing_77 : decode cX4_spreadGoing 77 = .ok (.iload_n 1, 1) := by decide +kernel
theorem dX4_spreadGoing_78 : decode cX4_spreadGoing 78 = .ok (.ireturn, 1) := by decide +kernel
set_option maxRecDepth 20000 in
theorem ggX4_losesTarget_X1_target : GoodIn wsX4_losesTarget wsX1_target := goodIn_r _ [7, 8, 9, 10, 11, 12, 6, 13, 14, 15, 16, 17, 18, 19, 20, 21, 22, 23, 24, 25, 26, 27, 28, 29, 30, 47, 48, 49, 50, 51, 52] (by decide +kernel) (by decide +kernel)
set_option maxRecDepth 20000 in
theorem gX4_losesTarget_X1_target : GoodIn wsX4_losesTarget (wsV RX4 186 RX1 yX1_target wsX1_target) := goodIn_app (goodIn_of _ (by decide +kernel)) ggX4_losesTarget_X1_target
theorem dX4_losesTarget_0 : decode cX4_losesTarget 0 = .ok (.aload_n 1, 1) := by decide +kernel
theorem dX4_losesTarget_1 : decode cX4_losesTarget 1 = .ok (.aload_n 0, 1) := by decide +kernel
theorem dX4_losesTarget_2 : decode cX4_losesTarget 2 = .ok (.getfield 53, 3) := by decide +kernel
theorem dX4_losesTarget_5 : decode cX4_losesTarget 5 = .ok (.iload_n 2, 1) := by decide +kernel
theorem dX4_losesTarget_6 : decode cX4_losesTarget 6 = .ok (.invokevirtual 186, 3) := by decide +kernel
theorem dX4_losesTarget_9 : decode cX4_losesTarget 9 = .ok (.istore_n 3, 1) := by decide +kernel
theorem dX4_losesTarget_10 : decode cX4_losesTarget 10 = .ok (.iload_n 3, 1) := by decide +kernel
theorem dX4_losesTarget_11 : decode cX4_losesTarget 11 = .ok (.iconst (-1), 1) := by decide +kernel
theorem dX4_losesTarget_12 : decode cX4_losesTarget 12 = .ok (.if_icmp .eq 16, 3) := by decide +kernel
theorem dX4_losesTarget_15 : decode cX4_losesTarget 15 = .ok (.aload_n 0, 1) := by decide +kernel
theorem dX4_losesTarget_16 : decode cX4_losesTarget 16 = .ok (.getfield 67, 3) := by decide +kernel
theorem dX4_losesTarget_19 : decode cX4_losesTarget 19 = .ok (.iload_n 3, 1) := by decide +kernel
theorem dX4_losesTarget_20 : decode cX4_losesTarget 20 = .ok (.baload, 1) := by decide +kernel
theorem dX4_losesTarget_21 : decode cX4_losesTarget 21 = .ok (.ifCond .eq 7, 3) := by decide +kernel
theorem dX4_losesTarget_24 : decode cX4_losesTarget 24 = .ok (.iconst 1, 1) := by decide +kernel
theorem dX4_losesTarget_25 : decode cX4_losesTarget 25 = .ok (.goto 4, 3) := by decide +kernel
theorem dX4_losesTarget_28 : decode cX4_losesTarget 28 = .ok (.iconst 0, 1) := by decide +kernel
theorem dX4_losesTarget_29 : decode cX4_losesTarget 29 = .ok (.ireturn, 1) := by decide +kernel
set_option maxRecDepth 20000 in
theorem ggX4_removeGoing_X2_remove : GoodIn wsX4_removeGoing wsX2_remove := goodIn_r _ [7, 8, 25, 26] (by decide +kernel) (by decide +kernel)
set_option maxRecDepth 20000 in
theorem gX4_removeGoing_X2_remove : GoodIn wsX4_removeGoing (wsV RX4 209 RX2 yX2_remove wsX2_remove) := goodIn_app (goodIn_of _ (by decide +kernel)) ggX4_removeGoing_X2_remove
theorem dX4_removeGoing_0 : decode cX4_removeGoing 0 = .ok (.iconst 0, 1) := by decide +kernel
theorem dX4_removeGoing_1 : decode cX4_removeGoing 1 = .ok (.istore_n 1, 1) := by decide +kernel
theorem dX4_removeGoing_2 : decode cX4_removeGoing 2 = .ok (.iconst 0, 1) := by decide +kernel
theorem dX4_removeGoing_3 : decode cX4_removeGoing 3 = .ok (.istore_n 2, 1) := by decide +kernel
theorem dX4_removeGoing_4 : decode cX4_removeGoing 4 = .ok (.iload_n 2, 1) := by decide +kernel
theorem dX4_removeGoing_5 : decode cX4_removeGoing 5 = .ok (.bipush 24, 2) := by decide +kernel
theorem dX4_removeGoing_7 : decode cX4_removeGoing 7 = .ok (.if_icmp .ge 29, 3) := by decide +kernel
theorem dX4_removeGoing_10 : decode cX4_removeGoing 10 = .ok (.aload_n 0, 1) := by decide +kernel
theorem dX4_removeGoing_11 : decode cX4_removeGoing 11 = .ok (.getfield 67, 3) := by decide +kernel
theorem dX4_removeGoing_14 : decode cX4_removeGoing 14 = .ok (.iload_n 2, 1) := by decide +kernel
theorem dX4_removeGoing_15 : decode cX4_removeGoing 15 = .ok (.baload, 1) := by decide +kernel
theorem dX4_removeGoing_16 : decode cX4_removeGoing 16 = .ok (.ifCond .eq 14, 3) := by decide +kernel
theorem dX4_removeGoing_19 : decode cX4_removeGoing 19 = .ok (.aload_n 0, 1) := by decide +kernel
theorem dX4_removeGoing_20 : decode cX4_removeGoing 20 = .ok (.getfield 57, 3) := by decide +kernel
theorem dX4_removeGoing_23 : decode cX4_removeGoing 23 = .ok (.iload_n 2, 1) := by decide +kernel
theorem dX4_removeGoing_24 : decode cX4_removeGoing 24 = .ok (.invokevirtual 209, 3) := by decide +kernel
theorem dX4_removeGoing_27 : decode cX4_removeGoing 27 = .ok (.iinc 1 1, 3) := by decide +kernel
theorem dX4_removeGoing_30 : decode cX4_removeGoing 30 = .ok (.iinc 2 1, 3) := by decide +kernel
theorem dX4_removeGoing_33 : decode cX4_removeGoing 33 = .ok (.goto (-29), 3) := by decide +kernel
theorem dX4_removeGoing_36 : decode cX4_removeGoing 36 = .ok (.iload_n 1, 1) := by decide +kernel
theorem dX4_removeGoing_37 : decode cX4_removeGoing 37 = .ok (.ireturn, 1) := by decide +kernel
set_option maxRecDepth 20000 in
theorem ggX4_loosenFromGoing_X4_losesTarget : GoodIn wsX4_loosenFromGoing wsX4_losesTarget := goodIn_r _ [11, 12, 2, 13, 14, 15, 16, 17, 18, 19, 20, 21, 22, 23, 24, 25, 26, 27, 28, 29, 30, 31, 32, 33, 34, 35, 36, 37, 38, 39, 40, 45, 46, 47, 48, 49, 50, 51, 52, 53, 54, 55, 56, 57, 58, 59, 60, 61, 62, 63, 64, 65, 66] (by decide +kernel) (by decide +kernel)
set_option maxRecDepth 20000 in
theorem gX4_loosenFromGoing_X4_losesTarget : GoodIn wsX4_loosenFromGoing (wsV RX4 205 RX4 yX4_losesTarget wsX4_losesTarget) := goodIn_app (goodIn_of _ (by decide +kernel)) ggX4_loosenFromGoing_X4_losesTarget
set_option maxRecDepth 20000 in
theorem ggX4_loosenFromGoing_X2_put : GoodIn wsX4_loosenFromGoing wsX2_put := goodIn_r _ [44, 35, 65, 66] (by decide +kernel) (by decide +kernel)
set_option maxRecDepth 20000 in
theorem gX4_loosenFromGoing_X2_put : GoodIn wsX4_loosenFromGoing (wsV RX4 132 RX2 yX2_put wsX2_put) := goodIn_app (goodIn_of _ (by decide +kernel)) ggX4_loosenFromGoing_X2_put
theorem dX4_loosenFromGoing_0 : decode cX4_loosenFromGoing 0 = .ok (.iconst (-1), 1) := by decide +kernel
theorem dX4_loosenFromGoing_1 : decode cX4_loosenFromGoing 1 = .ok (.istore_n 1, 1) := by decide +kernel
theorem dX4_loosenFromGoing_2 : decode cX4_loosenFromGoing 2 = .ok (.aload_n 0, 1) := by decide +kernel
theorem dX4_loosenFromGoing_3 : decode cX4_loosenFromGoing 3 = .ok (.getfield 23, 3) := by decide +kernel
theorem dX4_loosenFromGoing_6 : decode cX4_loosenFromGoing 6 = .ok (.iconst 1, 1) := by decide +kernel
theorem dX4_loosenFromGoing_7 : decode cX4_loosenFromGoing 7 = .ok (.isub, 1) := by decide +kernel
theorem dX4_loosenFromGoing_8 : decode cX4_loosenFromGoing 8 = .ok (.istore_n 2, 1) := by decide +kernel
theorem dX4_loosenFromGoing_9 : decode cX4_loosenFromGoing 9 = .ok (.iload_n 2, 1) := by decide +kernel
theorem dX4_loosenFromGoing_10 : decode cX4_loosenFromGoing 10 = .ok (.ifCond .lt 97, 3) := by decide +kernel
theorem dX4_loosenFromGoing_13 : decode cX4_loosenFromGoing 13 = .ok (.iconst 0, 1) := by decide +kernel
theorem dX4_loosenFromGoing_14 : decode cX4_loosenFromGoing 14 = .ok (.istore_n 3, 1) := by decide +kernel
theorem dX4_loosenFromGoing_15 : decode cX4_loosenFromGoing 15 = .ok (.iload_n 3, 1) := by decide +kernel
theorem dX4_loosenFromGoing_16 : decode cX4_loosenFromGoing 16 = .ok (.bipush 24, 2) := by decide +kernel
theorem dX4_loosenFromGoing_18 : decode cX4_loosenFromGoing 18 = .ok (.if_icmp .ge 83, 3) := by decide +kernel
theorem dX4_loosenFromGoing_21 : decode cX4_loosenFromGoing 21 = .ok (.aload_n 0, 1) := by decide +kernel
theorem dX4_loosenFromGoing_22 : decode cX4_loosenFromGoing 22 = .ok (.getfield 67, 3) := by decide +kernel
theorem dX4_loosenFromGoing_25 : decode cX4_loosenFromGoing 25 = .ok (.iload_n 3, 1) := by decide +kernel
theorem dX4_loosenFromGoing_26 : decode cX4_loosenFromGoing 26 = .ok (.baload, 1) := by decide +kernel
theorem dX4_loosenFromGoing_27 : decode cX4_loosenFromGoing 27 = .ok (.ifCond .ne 68, 3) := by decide +kernel
theorem dX4_loosenFromGoing_30 : decode cX4_loosenFromGoing 30 = .ok (.aload_n 0, 1) := by decide +kernel
theorem dX4_loosenFromGoing_31 : decode cX4_loosenFromGoing 31 = .ok (.aload_n 0, 1) := by decide +kernel
theorem dX4_loosenFromGoing_32 : decode cX4_loosenFromGoing 32 = .ok (.getfield 19, 3) := by decide +kernel
theorem dX4_loosenFromGoing_35 : decode cX4_loosenFromGoing 35 = .ok (.iload_n 2, 1) := by decide +kernel
theorem dX4_loosenFromGoing_36 : decode cX4_loosenFromGoing 36 = .ok (.aaload, 1) := by decide +kernel
theorem dX4_loosenFromGoing_37 : decode cX4_loosenFromGoing 37 = .ok (.iload_n 3, 1) := by decide +kernel
theorem dX4_loosenFromGoing_38 : decode cX4_loosenFromGoing 38 = .ok (.invokevirtual 205, 3) := by decide +kernel
theorem dX4_loosenFromGoing_41 : decode cX4_loosenFromGoing 41 = .ok (.ifCond .ne 6, 3) := by decide +kernel
theorem dX4_loosenFromGoing_44 : decode cX4_loosenFromGoing 44 = .ok (.goto 51, 3) := by decide +kernel
theorem dX4_loosenFromGoing_47 : decode cX4_loosenFromGoing 47 = .ok (.aload_n 0, 1) := by decide +kernel
theorem dX4_loosenFromGoing_48 : decode cX4_loosenFromGoing 48 = .ok (.getfield 19, 3) := by decide +kernel
theorem dX4_loosenFromGoing_51 : decode cX4_loosenFromGoing 51 = .ok (.iload_n 2, 1) := by decide +kernel
theorem dX4_loosenFromGoing_52 : decode cX4_loosenFromGoing 52 = .ok (.aaload, 1) := by decide +kernel
theorem dX4_loosenFromGoing_53 : decode cX4_loosenFromGoing 53 = .ok (.getfield 202, 3) := by decide +kernel
theorem dX4_loosenFromGoing_56 : decode cX4_loosenFromGoing 56 = .ok (.ifCond .ne 8, 3) := by decide +kernel
theorem dX4_loosenFromGoing_59 : decode cX4_loosenFromGoing 59 = .ok (.iload_n 2, 1) := by decide +kernel
theorem dX4_loosenFromGoing_60 : decode cX4_loosenFromGoing 60 = .ok (.istore_n 1, 1) := by decide +kernel
theorem dX4_loosenFromGoing_61 : decode cX4_loosenFromGoing 61 = .ok (.goto 34, 3) := by decide +kernel
theorem dX4_loosenFromGoing_64 : decode cX4_loosenFromGoing 64 = .ok (.aload_n 0, 1) := by decide +kernel
theorem dX4_loosenFromGoing_65 : decode cX4_loosenFromGoing 65 = .ok (.getfield 19, 3) := by decide +kernel
theorem dX4_loosenFromGoing_68 : decode cX4_loosenFromGoing 68 = .ok (.iload_n 2, 1) := by decide +kernel
theorem dX4_loosenFromGoing_69 : decode cX4_loosenFromGoing 69 = .ok (.aaload, 1) := by decide +kernel
theorem dX4_loosenFromGoing_70 : decode cX4_loosenFromGoing 70 = .ok (.getfield 202, 3) := by decide +kernel
theorem dX4_loosenFromGoing_73 : decode cX4_loosenFromGoing 73 = .ok (.iconst 2, 1) := by decide +kernel
theorem dX4_loosenFromGoing_74 : decode cX4_loosenFromGoing 74 = .ok (.if_icmp .ne 21, 3) := by decide +kernel
theorem dX4_loosenFromGoing_77 : decode cX4_loosenFromGoing 77 = .ok (.aload_n 0, 1) := by decide +kernel
theorem dX4_loosenFromGoing_78 : decode cX4_loosenFromGoing 78 = .ok (.getfield 57, 3) := by decide +kernel
theorem dX4_loosenFromGoing_81 : decode cX4_loosenFromGoing 81 = .ok (.iload_n 3, 1) := by decide +kernel
theorem dX4_loosenFromGoing_82 : decode cX4_loosenFromGoing 82 = .ok (.aload_n 0, 1) := by decide +kernel
theorem dX4_loosenFromGoing_83 : decode cX4_loosenFromGoing 83 = .ok (.getfield 19, 3) := by decide +kernel
theorem dX4_loosenFromGoing_86 : decode cX4_loosenFromGoing 86 = .ok (.iload_n 2, 1) := by decide +kernel
theorem dX4_loosenFromGoing_87 : decode cX4_loosenFromGoing 87 = .ok (.aaload, 1) := by decide +kernel
theorem dX4_loosenFromGoing_88 : decode cX4_loosenFromGoing 88 = .ok (.getfield 212, 3) := by decide +kernel
theorem dX4_loosenFromGoing_91 : decode cX4_loosenFromGoing 91 = .ok (.iconst 0, 1) := by decide +kernel
theorem dX4_loosenFromGoing_92 : decode cX4_loosenFromGoing 92 = .ok (.invokevirtual 132, 3) := by decide +kernel
theorem dX4_loosenFromGoing_95 : decode cX4_loosenFromGoing 95 = .ok (.iinc 3 1, 3) := by decide +kernel
theorem dX4_loosenFromGoing_98 : decode cX4_loosenFromGoing 98 = .ok (.goto (-83), 3) := by decide +kernel
theorem dX4_loosenFromGoing_101 : decode cX4_loosenFromGoing 101 = .ok (.iinc 2 (-1), 3) := by decide +kernel
theorem dX4_loosenFromGoing_104 : decode cX4_loosenFromGoing 104 = .ok (.goto (-95), 3) := by decide +kernel
theorem dX4_loosenFromGoing_107 : decode cX4_loosenFromGoing 107 = .ok (.iload_n 1, 1) := by decide +kernel
theorem dX4_loosenFromGoing_108 : decode cX4_loosenFromGoing 108 = .ok (.ireturn, 1) := by decide +kernel
set_option maxRecDepth 20000 in
theorem ggX4_passOnKey_X1_target : GoodIn wsX4_passOnKey wsX1_target := goodIn_r _ [11, 12, 13, 14, 15, 16, 10, 17, 18, 19, 20, 21, 22, 23, 24, 25, 26, 27, 28, 29, 30, 31, 32, 33, 34, 55, 56, 57, 58, 59, 60] (by decide +kernel) (by decide +kernel)
set_option maxRecDepth 20000 in
theorem gX4_passOnKey_X1_target : GoodIn wsX4_passOnKey (wsV RX4 186 RX1 yX1_target wsX1_target) := goodIn_app (goodIn_of _ (by decide +kernel)) ggX4_passOnKey_X1_target
set_option maxRecDepth 20000 in
theorem ggX4_passOnKey_X2_put : GoodIn wsX4_passOnKey wsX2_put := goodIn_r _ [38, 29, 59, 60] (by decide +kernel) (by decide +kernel)
set_option maxRecDepth 20000 in
theorem gX4_passOnKey_X2_put : GoodIn wsX4_passOnKey (wsV RX4 132 RX2 yX2_put wsX2_put) := goodIn_app (goodIn_of _ (by decide +kernel)) ggX4_passOnKey_X2_put
theorem dX4_passOnKey_0 : decode cX4_passOnKey 0 = .ok (.iconst (-1), 1) := by decide +kernel
theorem dX4_passOnKey_1 : decode cX4_passOnKey 1 = .ok (.istore_n 3, 1) := by decide +kernel
theorem dX4_passOnKey_2 : decode cX4_passOnKey 2 = .ok (.aload_n 0, 1) := by decide +kernel
theorem dX4_passOnKey_3 : decode cX4_passOnKey 3 = .ok (.getfield 23, 3) := by decide +kernel
theorem dX4_passOnKey_6 : decode cX4_passOnKey 6 = .ok (.iconst 1, 1) := by decide +kernel
theorem dX4_passOnKey_7 : decode cX4_passOnKey 7 = .ok (.isub, 1) := by decide +kernel
theorem dX4_passOnKey_8 : decode cX4_passOnKey 8 = .ok (.istore 4, 2) := by decide +kernel
theorem dX4_passOnKey_10 : decode cX4_passOnKey 10 = .ok (.iload 4, 2) := by decide +kernel
theorem dX4_passOnKey_12 : decode cX4_passOnKey 12 = .ok (.ifCond .lt 105, 3) := by decide +kernel
theorem dX4_passOnKey_15 : decode cX4_passOnKey 15 = .ok (.iconst 0, 1) := by decide +kernel
theorem dX4_passOnKey_16 : decode cX4_passOnKey 16 = .ok (.istore 5, 2) := by decide +kernel
theorem dX4_passOnKey_18 : decode cX4_passOnKey 18 = .ok (.iload 5, 2) := by decide +kernel
theorem dX4_passOnKey_20 : decode cX4_passOnKey 20 = .ok (.bipush 24, 2) := by decide +kernel
theorem dX4_passOnKey_22 : decode cX4_passOnKey 22 = .ok (.if_icmp .ge 89, 3) := by decide +kernel
theorem dX4_passOnKey_25 : decode cX4_passOnKey 25 = .ok (.aload_n 0, 1) := by decide +kernel
theorem dX4_passOnKey_26 : decode cX4_passOnKey 26 = .ok (.getfield 19, 3) := by decide +kernel
theorem dX4_passOnKey_29 : decode cX4_passOnKey 29 = .ok (.iload 4, 2) := by decide +kernel
theorem dX4_passOnKey_31 : decode cX4_passOnKey 31 = .ok (.aaload, 1) := by decide +kernel
theorem dX4_passOnKey_32 : decode cX4_passOnKey 32 = .ok (.aload_n 0, 1) := by decide +kernel
theorem dX4_passOnKey_33 : decode cX4_passOnKey 33 = .ok (.getfield 53, 3) := by decide +kernel
theorem dX4_passOnKey_36 : decode cX4_passOnKey 36 = .ok (.iload 5, 2) := by decide +kernel
theorem dX4_passOnKey_38 : decode cX4_passOnKey 38 = .ok (.invokevirtual 186, 3) := by decide +kernel
theorem dX4_passOnKey_41 : decode cX4_passOnKey 41 = .ok (.iload_n 1, 1) := by decide +kernel
theorem dX4_passOnKey_42 : decode cX4_passOnKey 42 = .ok (.if_icmp .eq 6, 3) := by decide +kernel
theorem dX4_passOnKey_45 : decode cX4_passOnKey 45 = .ok (.goto 60, 3) := by decide +kernel
theorem dX4_passOnKey_48 : decode cX4_passOnKey 48 = .ok (.aload_n 0, 1) := by decide +kernel
theorem dX4_passOnKey_49 : decode cX4_passOnKey 49 = .ok (.getfield 19, 3) := by decide +kernel
theorem dX4_passOnKey_52 : decode cX4_passOnKey 52 = .ok (.iload 4, 2) := by decide +kernel
theorem dX4_passOnKey_54 : decode cX4_passOnKey 54 = .ok (.aaload, 1) := by decide +kernel
theorem dX4_passOnKey_55 : decode cX4_passOnKey 55 = .ok (.getfield 202, 3) := by decide +kernel
theorem dX4_passOnKey_58 : decode cX4_passOnKey 58 = .ok (.ifCond .ne 9, 3) := by decide +kernel
theorem dX4_passOnKey_61 : decode cX4_passOnKey 61 = .ok (.iload 4, 2) := by decide +kernel
theorem dX4_passOnKey_63 : decode cX4_passOnKey 63 = .ok (.istore_n 3, 1) := by decide +kernel
theorem dX4_passOnKey_64 : decode cX4_passOnKey 64 = .ok (.goto 41, 3) := by decide +kernel
theorem dX4_passOnKey_67 : decode cX4_passOnKey 67 = .ok (.aload_n 0, 1) := by decide +kernel
theorem dX4_passOnKey_68 : decode cX4_passOnKey 68 = .ok (.getfield 57, 3) := by decide +kernel
theorem dX4_passOnKey_71 : decode cX4_passOnKey 71 = .ok (.iload 5, 2) := by decide +kernel
theorem dX4_passOnKey_73 : decode cX4_passOnKey 73 = .ok (.aload_n 0, 1) := by decide +kernel
theorem dX4_passOnKey_74 : decode cX4_passOnKey 74 = .ok (.getfield 19, 3) := by decide +kernel
theorem dX4_passOnKey_77 : decode cX4_passOnKey 77 = .ok (.iload 4, 2) := by decide +kernel
theorem dX4_passOnKey_79 : decode cX4_passOnKey 79 = .ok (.aaload, 1) := by decide +kernel
theorem dX4_passOnKey_80 : decode cX4_passOnKey 80 = .ok (.getfield 212, 3) := by decide +kernel
theorem dX4_passOnKey_83 : decode cX4_passOnKey 83 = .ok (.aload_n 0, 1) := by decide +kernel
theorem dX4_passOnKey_84 : decode cX4_passOnKey 84 = .ok (.getfield 19, 3) := by decide +kernel
theorem dX4_passOnKey_87 : decode cX4_passOnKey 87 = .ok (.iload 4, 2) := by decide +kernel
theorem dX4_passOnKey_89 : decode cX4_passOnKey 89 = .ok (.aaload, 1) := by decide +kernel
theorem dX4_passOnKey_90 : decode cX4_passOnKey 90 = .ok (.getfield 202, 3) := by decide +kernel
theorem dX4_passOnKey_93 : decode cX4_passOnKey 93 = .ok (.iconst 1, 1) := by decide +kernel
theorem dX4_passOnKey_94 : decode cX4_passOnKey 94 = .ok (.if_icmp .ne 7, 3) := by decide +kernel
theorem dX4_passOnKey_97 : decode cX4_passOnKey 97 = .ok (.iload_n 2, 1) := by decide +kernel
theorem dX4_passOnKey_98 : decode cX4_passOnKey 98 = .ok (.goto 4, 3) := by decide +kernel
theorem dX4_passOnKey_101 : decode cX4_passOnKey 101 = .ok (.iconst 0, 1) := by decide +kernel
theorem dX4_passOnKey_102 : decode cX4_passOnKey 102 = .ok (.invokevirtual 132, 3) := by decide +kernel
theorem dX4_passOnKey_105 : decode cX4_passOnKey 105 = .ok (.iinc 5 1, 3) := by decide +kernel
theorem dX4_passOnKey_108 : decode cX4_passOnKey 108 = .ok (.goto (-90), 3) := by decide +kernel
theorem dX4_passOnKey_111 : decode cX4_passOnKey 111 = .ok (.iinc 4 (-1), 3) := by decide +kernel
theorem dX4_passOnKey_114 : decode cX4_passOnKey 114 = .ok (.goto (-104), 3) := by decide +kernel
theorem dX4_passOnKey_117 : decode cX4_passOnKey 117 = .ok (.iload_n 3, 1) := by decide +kernel
theorem dX4_passOnKey_118 : decode cX4_passOnKey 118 = .ok (.ireturn, 1) := by decide +kernel
