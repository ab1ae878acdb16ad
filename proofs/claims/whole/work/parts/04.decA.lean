theorem dX0_init_0 : decode cX0_init 0 = .ok (.aload_n 0, 1) := by decide +kernel
theorem dX0_init_1 : decode cX0_init 1 = .ok (.invokespecial 3, 3) := by decide +kernel
theorem dX0_init_4 : decode cX0_init 4 = .ok (.aload_n 0, 1) := by decide +kernel
theorem dX0_init_5 : decode cX0_init 5 = .ok (.iload_n 1, 1) := by decide +kernel
theorem dX0_init_6 : decode cX0_init 6 = .ok (.putfield 9, 3) := by decide +kernel
theorem dX0_init_9 : decode cX0_init 9 = .ok (.aload_n 0, 1) := by decide +kernel
theorem dX0_init_10 : decode cX0_init 10 = .ok (.aload_n 2, 1) := by decide +kernel
theorem dX0_init_11 : decode cX0_init 11 = .ok (.putfield 15, 3) := by decide +kernel
theorem dX0_init_14 : decode cX0_init 14 = .ok (.aload_n 0, 1) := by decide +kernel
theorem dX0_init_15 : decode cX0_init 15 = .ok (.aload_n 2, 1) := by decide +kernel
theorem dX0_init_16 : decode cX0_init 16 = .ok (.arraylength, 1) := by decide +kernel
theorem dX0_init_17 : decode cX0_init 17 = .ok (.newarray .int, 2) := by decide +kernel
theorem dX0_init_19 : decode cX0_init 19 = .ok (.putfield 19, 3) := by decide +kernel
theorem dX0_init_22 : decode cX0_init 22 = .ok (.return_, 1) := by decide +kernel
theorem dX0_isWord_0 : decode cX0_isWord 0 = .ok (.iload_n 0, 1) := by decide +kernel
theorem dX0_isWord_1 : decode cX0_isWord 1 = .ok (.ifCond .lt 8, 3) := by decide +kernel
theorem dX0_isWord_4 : decode cX0_isWord 4 = .ok (.iload_n 0, 1) := by decide +kernel
theorem dX0_isWord_5 : decode cX0_isWord 5 = .ok (.iconst 3, 1) := by decide +kernel
theorem dX0_isWord_6 : decode cX0_isWord 6 = .ok (.if_icmp .le 28, 3) := by decide +kernel
theorem dX0_isWord_9 : decode cX0_isWord 9 = .ok (.iload_n 0, 1) := by decide +kernel
theorem dX0_isWord_10 : decode cX0_isWord 10 = .ok (.bipush 10, 2) := by decide +kernel
theorem dX0_isWord_12 : decode cX0_isWord 12 = .ok (.if_icmp .lt 9, 3) := by decide +kernel
theorem dX0_isWord_15 : decode cX0_isWord 15 = .ok (.iload_n 0, 1) := by decide +kernel
theorem dX0_isWord_16 : decode cX0_isWord 16 = .ok (.bipush 17, 2) := by decide +kernel
theorem dX0_isWord_18 : decode cX0_isWord 18 = .ok (.if_icmp .le 16, 3) := by decide +kernel
theorem dX0_isWord_21 : decode cX0_isWord 21 = .ok (.iload_n 0, 1) := by decide +kernel
theorem dX0_isWord_22 : decode cX0_isWord 22 = .ok (.bipush 100, 2) := by decide +kernel
theorem dX0_isWord_24 : decode cX0_isWord 24 = .ok (.if_icmp .lt 14, 3) := by decide +kernel
theorem dX0_isWord_27 : decode cX0_isWord 27 = .ok (.iload_n 0, 1) := by decide +kernel
theorem dX0_isWord_28 : decode cX0_isWord 28 = .ok (.sipush 300, 3) := by decide +kernel
theorem dX0_isWord_31 : decode cX0_isWord 31 = .ok (.if_icmp .gt 7, 3) := by decide +kernel
theorem dX0_isWord_34 : decode cX0_isWord 34 = .ok (.iconst 1, 1) := by decide +kernel
theorem dX0_isWord_35 : decode cX0_isWord 35 = .ok (.goto 4, 3) := by decide +kernel
theorem dX0_isWord_38 : decode cX0_isWord 38 = .ok (.iconst 0, 1) := by decide +kernel
theorem dX0_isWord_39 : decode cX0_isWord 39 = .ok (.ireturn, 1) := by decide +kernel
set_option maxRecDepth 20000 in
theorem ggX0_areRight_X0_taken : GoodIn wsX0_areRight wsX0_taken := goodIn_r _ [4] (by decide +kernel) (by decide +kernel)
set_option maxRecDepth 20000 in
theorem gX0_areRight_X0_taken : GoodIn wsX0_areRight (va_wsS RX0 22 yX0_taken wsX0_taken) := goodIn_app (goodIn_of _ (by decide +kernel)) ggX0_areRight_X0_taken
theorem dX0_areRight_0 : decode cX0_areRight 0 = .ok (.iconst 0, 1) := by decide +kernel
theorem dX0_areRight_1 : decode cX0_areRight 1 = .ok (.istore_n 2, 1) := by decide +kernel
theorem dX0_areRight_2 : decode cX0_areRight 2 = .ok (.iconst 0, 1) := by decide +kernel
theorem dX0_areRight_3 : decode cX0_areRight 3 = .ok (.istore_n 3, 1) := by decide +kernel
theorem dX0_areRight_4 : decode cX0_areRight 4 = .ok (.iload_n 3, 1) := by decide +kernel
theorem dX0_areRight_5 : decode cX0_areRight 5 = .ok (.aload_n 0, 1) := by decide +kernel
theorem dX0_areRight_6 : decode cX0_areRight 6 = .ok (.arraylength, 1) := by decide +kernel
theorem dX0_areRight_7 : decode cX0_areRight 7 = .ok (.if_icmp .ge 58, 3) := by decide +kernel
theorem dX0_areRight_10 : decode cX0_areRight 10 = .ok (.aload_n 0, 1) := by decide +kernel
theorem dX0_areRight_11 : decode cX0_areRight 11 = .ok (.iload_n 3, 1) := by decide +kernel
theorem dX0_areRight_12 : decode cX0_areRight 12 = .ok (.iaload, 1) := by decide +kernel
theorem dX0_areRight_13 : decode cX0_areRight 13 = .ok (.invokestatic 22, 3) := by decide +kernel
theorem dX0_areRight_16 : decode cX0_areRight 16 = .ok (.istore 4, 2) := by decide +kernel
theorem dX0_areRight_18 : decode cX0_areRight 18 = .ok (.aload_n 0, 1) := by decide +kernel
theorem dX0_areRight_19 : decode cX0_areRight 19 = .ok (.iload_n 3, 1) := by decide +kernel
theorem dX0_areRight_20 : decode cX0_areRight 20 = .ok (.iaload, 1) := by decide +kernel
theorem dX0_areRight_21 : decode cX0_areRight 21 = .ok (.iconst 3, 1) := by decide +kernel
theorem dX0_areRight_22 : decode cX0_areRight 22 = .ok (.if_icmp .gt 14, 3) := by decide +kernel
theorem dX0_areRight_25 : decode cX0_areRight 25 = .ok (.aload_n 0, 1) := by decide +kernel
theorem dX0_areRight_26 : decode cX0_areRight 26 = .ok (.iload_n 3, 1) := by decide +kernel
theorem dX0_areRight_27 : decode cX0_areRight 27 = .ok (.iaload, 1) := by decide +kernel
theorem dX0_areRight_28 : decode cX0_areRight 28 = .ok (.iload_n 1, 1) := by decide +kernel
theorem dX0_areRight_29 : decode cX0_areRight 29 = .ok (.if_icmp .lt 7, 3) := by decide +kernel
theorem dX0_areRight_32 : decode cX0_areRight 32 = .ok (.iconst 1, 1) := by decide +kernel
theorem dX0_areRight_33 : decode cX0_areRight 33 = .ok (.goto 4, 3) := by decide +kernel
theorem dX0_areRight_36 : decode cX0_areRight 36 = .ok (.iconst 0, 1) := by decide +kernel
theorem dX0_areRight_37 : decode cX0_areRight 37 = .ok (.istore 5, 2) := by decide +kernel
theorem dX0_areRight_39 : decode cX0_areRight 39 = .ok (.iload 5, 2) := by decide +kernel
theorem dX0_areRight_41 : decode cX0_areRight 41 = .ok (.ifCond .ne 9, 3) := by decide +kernel
theorem dX0_areRight_44 : decode cX0_areRight 44 = .ok (.iload_n 2, 1) := by decide +kernel
theorem dX0_areRight_45 : decode cX0_areRight 45 = .ok (.iload 4, 2) := by decide +kernel
theorem dX0_areRight_47 : decode cX0_areRight 47 = .ok (.if_icmp .ge 5, 3) := by decide +kernel
theorem dX0_areRight_50 : decode cX0_areRight 50 = .ok (.iconst 0, 1) := by decide +kernel
theorem dX0_areRight_51 : decode cX0_areRight 51 = .ok (.ireturn, 1) := by decide +kernel
theorem dX0_areRight_52 : decode cX0_areRight 52 = .ok (.iload_n 2, 1) := by decide +kernel
theorem dX0_areRight_53 : decode cX0_areRight 53 = .ok (.iconst 1, 1) := by decide +kernel
theorem dX0_areRight_54 : decode cX0_areRight 54 = .ok (.iload 4, 2) := by decide +kernel
theorem dX0_areRight_56 : decode cX0_areRight 56 = .ok (.isub, 1) := by decide +kernel
theorem dX0_areRight_57 : decode cX0_areRight 57 = .ok (.iadd, 1) := by decide +kernel
theorem dX0_areRight_58 : decode cX0_areRight 58 = .ok (.istore_n 2, 1) := by decide +kernel
theorem dX0_areRight_59 : decode cX0_areRight 59 = .ok (.iinc 3 1, 3) := by decide +kernel
theorem dX0_areRight_62 : decode cX0_areRight 62 = .ok (.goto (-58), 3) := by decide +kernel
theorem dX0_areRight_65 : decode cX0_areRight 65 = .ok (.iload_n 2, 1) := by decide +kernel
theorem dX0_areRight_66 : decode cX0_areRight 66 = .ok (.iconst 1, 1) := by decide +kernel
theorem dX0_areRight_67 : decode cX0_areRight 67 = .ok (.if_icmp .ne 7, 3) := by decide +kernel
theorem dX0_areRight_70 : decode cX0_areRight 70 = .ok (.iconst 1, 1) := by decide +kernel
theorem dX0_areRight_71 : decode cX0_areRight 71 = .ok (.goto 4, 3) := by decide +kernel
theorem dX0_areRight_74 : decode cX0_areRight 74 = .ok (.iconst 0, 1) := by decide +kernel
theorem dX0_areRight_75 : decode cX0_areRight 75 = .ok (.ireturn, 1) := by decide +kernel
theorem dX0_taken_0 : decode cX0_taken 0 = .ok (.iload_n 0, 1) := by decide +kernel
theorem dX0_taken_1 : decode cX0_taken 1 = .ok (.bipush 10, 2) := by decide +kernel
theorem dX0_taken_3 : decode cX0_taken 3 = .ok (.if_icmp .lt 9, 3) := by decide +kernel
theorem dX0_taken_6 : decode cX0_taken 6 = .ok (.iload_n 0, 1) := by decide +kernel
theorem dX0_taken_7 : decode cX0_taken 7 = .ok (.bipush 17, 2) := by decide +kernel
theorem dX0_taken_9 : decode cX0_taken 9 = .ok (.if_icmp .le 5, 3) := by decide +kernel
theorem dX0_taken_12 : decode cX0_taken 12 = .ok (.iconst 0, 1) := by decide +kernel
theorem dX0_taken_13 : decode cX0_taken 13 = .ok (.ireturn, 1) := by decide +kernel
theorem dX0_taken_14 : decode cX0_taken 14 = .ok (.iload_n 0, 1) := by decide +kernel
theorem dX0_taken_15 : decode cX0_taken 15 = .ok (.bipush 17, 2) := by decide +kernel
theorem dX0_taken_17 : decode cX0_taken 17 = .ok (.if_icmp .ne 7, 3) := by decide +kernel
theorem dX0_taken_20 : decode cX0_taken 20 = .ok (.iconst 1, 1) := by decide +kernel
theorem dX0_taken_21 : decode cX0_taken 21 = .ok (.goto 4, 3) := by decide +kernel
theorem dX0_taken_24 : decode cX0_taken 24 = .ok (.iconst 2, 1) := by decide +kernel
theorem dX0_taken_25 : decode cX0_taken 25 = .ok (.ireturn, 1) := by decide +kernel
set_option maxRecDepth 20000 in
theorem ggX0_isBroken_X2_holds : GoodIn wsX0_isBroken wsX2_holds := goodIn_r _ [6, 7, 33, 34] (by decide +kernel) (by decide +kernel)
set_option maxRecDepth 20000 in
theorem gX0_isBroken_X2_holds : GoodIn wsX0_isBroken (wsV RX0 26 RX2 yX2_holds wsX2_holds) := goodIn_app (goodIn_of _ (by decide +kernel)) ggX0_isBroken_X2_holds
set_option maxRecDepth 20000 in
theorem ggX0_isBroken_X0_result : GoodIn wsX0_isBroken wsX0_result := goodIn_r _ [12, 13, 14, 15, 16, 11, 17, 18, 19, 20, 21, 22, 23, 5, 24, 25, 26, 27, 28, 29, 30, 31, 32, 33, 34] (by decide +kernel) (by decide +kernel)
set_option maxRecDepth 20000 in
theorem gX0_isBroken_X0_result : GoodIn wsX0_isBroken (wsV RX0 32 RX0 yX0_result wsX0_result) := goodIn_app (goodIn_of _ (by decide +kernel)) ggX0_isBroken_X0_result
theorem dX0_isBroken_0 : decode cX0_isBroken 0 = .ok (.iconst 0, 1) := by decide +kernel
theorem dX0_isBroken_1 : decode cX0_isBroken 1 = .ok (.istore_n 2, 1) := by decide +kernel
theorem dX0_isBroken_2 : decode cX0_isBroken 2 = .ok (.iload_n 2, 1) := by decide +kernel
theorem dX0_isBroken_3 : decode cX0_isBroken 3 = .ok (.bipush 24, 2) := by decide +kernel
theorem dX0_isBroken_5 : decode cX0_isBroken 5 = .ok (.if_icmp .ge 32, 3) := by decide +kernel
theorem dX0_isBroken_8 : decode cX0_isBroken 8 = .ok (.aload_n 1, 1) := by decide +kernel
theorem dX0_isBroken_9 : decode cX0_isBroken 9 = .ok (.iload_n 2, 1) := by decide +kernel
theorem dX0_isBroken_10 : decode cX0_isBroken 10 = .ok (.aload_n 0, 1) := by decide +kernel
theorem dX0_isBroken_11 : decode cX0_isBroken 11 = .ok (.getfield 9, 3) := by decide +kernel
theorem dX0_isBroken_14 : decode cX0_isBroken 14 = .ok (.invokevirtual 26, 3) := by decide +kernel
theorem dX0_isBroken_17 : decode cX0_isBroken 17 = .ok (.ifCond .eq 14, 3) := by decide +kernel
theorem dX0_isBroken_20 : decode cX0_isBroken 20 = .ok (.aload_n 0, 1) := by decide +kernel
theorem dX0_isBroken_21 : decode cX0_isBroken 21 = .ok (.aload_n 1, 1) := by decide +kernel
theorem dX0_isBroken_22 : decode cX0_isBroken 22 = .ok (.iload_n 2, 1) := by decide +kernel
theorem dX0_isBroken_23 : decode cX0_isBroken 23 = .ok (.invokevirtual 32, 3) := by decide +kernel
theorem dX0_isBroken_26 : decode cX0_isBroken 26 = .ok (.ifCond .ne 5, 3) := by decide +kernel
theorem dX0_isBroken_29 : decode cX0_isBroken 29 = .ok (.iconst 1, 1) := by decide +kernel
theorem dX0_isBroken_30 : decode cX0_isBroken 30 = .ok (.ireturn, 1) := by decide +kernel
theorem dX0_isBroken_31 : decode cX0_isBroken 31 = .ok (.iinc 2 1, 3) := by decide +kernel
theorem dX0_isBroken_34 : decode cX0_isBroken 34 = .ok (.goto (-32), 3) := by decide +kernel
theorem dX0_isBroken_37 : decode cX0_isBroken 37 = .ok (.iconst 0, 1) := by decide +kernel
theorem dX0_isBroken_38 : decode cX0_isBroken 38 = .ok (.ireturn, 1) := by decide +kernel
set_option maxRecDepth 20000 in
theorem ggX0_result_X0_taken : GoodIn wsX0_result wsX0_taken := goodIn_r _ [6] (by decide +kernel) (by decide +kernel)
set_option maxRecDepth 20000 in
theorem gX0_result_X0_taken : GoodIn wsX0_result (va_wsS RX0 22 yX0_taken wsX0_taken) := goodIn_app (goodIn_of _ (by decide +kernel)) ggX0_result_X0_taken
set_option maxRecDepth 20000 in
theorem ggX0_result_X0_laid : GoodIn wsX0_result wsX0_laid := goodIn_r _ [9, 10, 11, 12, 13, 14, 15, 23, 24] (by decide +kernel) (by decide +kernel)
set_option maxRecDepth 20000 in
theorem gX0_result_X0_laid : GoodIn wsX0_result (va_wsS RX0 36 yX0_laid wsX0_laid) := goodIn_app (goodIn_of _ (by decide +kernel)) ggX0_result_X0_laid
set_option maxRecDepth 20000 in
theorem ggX0_result_X0_worked : GoodIn wsX0_result wsX0_worked := goodIn_r _ [19, 2, 20, 21, 22] (by decide +kernel) (by decide +kernel)
set_option maxRecDepth 20000 in
theorem gX0_result_X0_worked : GoodIn wsX0_result (wsV RX0 40 RX0 yX0_worked wsX0_worked) := goodIn_app (goodIn_of _ (by decide +kernel)) ggX0_result_X0_worked
theorem dX0_result_0 : decode cX0_result 0 = .ok (.iconst 0, 1) := by decide +kernel
theorem dX0_result_1 : decode cX0_result 1 = .ok (.istore_n 3, 1) := by decide +kernel
theorem dX0_result_2 : decode cX0_result 2 = .ok (.iconst 0, 1) := by decide +kernel
theorem dX0_result_3 : decode cX0_result 3 = .ok (.istore 4, 2) := by decide +kernel
theorem dX0_result_5 : decode cX0_result 5 = .ok (.iload 4, 2) := by decide +kernel
theorem dX0_result_7 : decode cX0_result 7 = .ok (.aload_n 0, 1) := by decide +kernel
theorem dX0_result_8 : decode cX0_result 8 = .ok (.getfield 15, 3) := by decide +kernel
theorem dX0_result_11 : decode cX0_result 11 = .ok (.arraylength, 1) := by decide +kernel
theorem dX0_result_12 : decode cX0_result 12 = .ok (.if_icmp .ge 67, 3) := by decide +kernel
theorem dX0_result_15 : decode cX0_result 15 = .ok (.aload_n 0, 1) := by decide +kernel
theorem dX0_result_16 : decode cX0_result 16 = .ok (.getfield 15, 3) := by decide +kernel
theorem dX0_result_19 : decode cX0_result 19 = .ok (.iload 4, 2) := by decide +kernel
theorem dX0_result_21 : decode cX0_result 21 = .ok (.iaload, 1) := by decide +kernel
theorem dX0_result_22 : decode cX0_result 22 = .ok (.invokestatic 22, 3) := by decide +kernel
theorem dX0_result_25 : decode cX0_result 25 = .ok (.istore 5, 2) := by decide +kernel
theorem dX0_result_27 : decode cX0_result 27 = .ok (.iload_n 3, 1) := by decide +kernel
theorem dX0_result_28 : decode cX0_result 28 = .ok (.iload 5, 2) := by decide +kernel
theorem dX0_result_30 : decode cX0_result 30 = .ok (.isub, 1) := by decide +kernel
theorem dX0_result_31 : decode cX0_result 31 = .ok (.istore_n 3, 1) := by decide +kernel
theorem dX0_result_32 : decode cX0_result 32 = .ok (.aload_n 0, 1) := by decide +kernel
theorem dX0_result_33 : decode cX0_result 33 = .ok (.getfield 19, 3) := by decide +kernel
theorem dX0_result_36 : decode cX0_result 36 = .ok (.iload_n 3, 1) := by decide +kernel
theorem dX0_result_37 : decode cX0_result 37 = .ok (.iload 5, 2) := by decide +kernel
theorem dX0_result_39 : decode cX0_result 39 = .ok (.ifCond .ne 18, 3) := by decide +kernel
theorem dX0_result_42 : decode cX0_result 42 = .ok (.aload_n 0, 1) := by decide +kernel
theorem dX0_result_43 : decode cX0_result 43 = .ok (.getfield 15, 3) := by decide +kernel
theorem dX0_result_46 : decode cX0_result 46 = .ok (.iload 4, 2) := by decide +kernel
theorem dX0_result_48 : decode cX0_result 48 = .ok (.iaload, 1) := by decide +kernel
theorem dX0_result_49 : decode cX0_result 49 = .ok (.aload_n 1, 1) := by decide +kernel
theorem dX0_result_50 : decode cX0_result 50 = .ok (.iload_n 2, 1) := by decide +kernel
theorem dX0_result_51 : decode cX0_result 51 = .ok (.invokestatic 36, 3) := by decide +kernel
theorem dX0_result_54 : decode cX0_result 54 = .ok (.goto 15, 3) := by decide +kernel
theorem dX0_result_57 : decode cX0_result 57 = .ok (.aload_n 0, 1) := by decide +kernel
theorem dX0_result_58 : decode cX0_result 58 = .ok (.aload_n 0, 1) := by decide +kernel
theorem dX0_result_59 : decode cX0_result 59 = .ok (.getfield 15, 3) := by decide +kernel
theorem dX0_result_62 : decode cX0_result 62 = .ok (.iload 4, 2) := by decide +kernel
theorem dX0_result_64 : decode cX0_result 64 = .ok (.iaload, 1) := by decide +kernel
theorem dX0_result_65 : decode cX0_result 65 = .ok (.iload_n 3, 1) := by decide +kernel
theorem dX0_result_66 : decode cX0_result 66 = .ok (.invokevirtual 40, 3) := by decide +kernel
theorem dX0_result_69 : decode cX0_result 69 = .ok (.iastore, 1) := by decide +kernel
theorem dX0_result_70 : decode cX0_result 70 = .ok (.iinc 3 1, 3) := by decide +kernel
theorem dX0_result_73 : decode cX0_result 73 = .ok (.iinc 4 1, 3) := by decide +kernel
theorem dX0_result_76 : decode cX0_result 76 = .ok (.goto (-71), 3) := by decide +kernel
theorem dX0_result_79 : decode cX0_result 79 = .ok (.aload_n 0, 1) := by decide +kernel
theorem dX0_result_80 : decode cX0_result 80 = .ok (.getfield 19, 3) := by decide +kernel
theorem dX0_result_83 : decode cX0_result 83 = .ok (.iconst 0, 1) := by decide +kernel
theorem dX0_result_84 : decode cX0_result 84 = .ok (.iaload, 1) := by decide +kernel
theorem dX0_result_85 : decode cX0_result 85 = .ok (.ireturn, 1) := by decide +kernel
set_option maxRecDepth 20000 in
theorem ggX0_laid_X2_at : GoodIn wsX0_laid wsX2_at := goodIn_r _ [5, 6, 7, 8] (by decide +kernel) (by decide +kernel)
set_option maxRecDepth 20000 in
theorem gX0_laid_X2_at : GoodIn wsX0_laid (wsV RX0 44 RX2 yX2_at wsX2_at) := goodIn_app (goodIn_of _ (by decide +kernel)) ggX0_laid_X2_at
theorem dX0_laid_0 : decode cX0_laid 0 = .ok (.iload_n 0, 1) := by decide +kernel
theorem dX0_laid_1 : decode cX0_laid 1 = .ok (.iconst 3, 1) := by decide +kernel
theorem dX0_laid_2 : decode cX0_laid 2 = .ok (.if_icmp .gt 12, 3) := by decide +kernel
theorem dX0_laid_5 : decode cX0_laid 5 = .ok (.aload_n 1, 1) := by decide +kernel
theorem dX0_laid_6 : decode cX0_laid 6 = .ok (.iload_n 2, 1) := by decide +kernel
theorem dX0_laid_7 : decode cX0_laid 7 = .ok (.iload_n 0, 1) := by decide +kernel
theorem dX0_laid_8 : decode cX0_laid 8 = .ok (.invokevirtual 44, 3) := by decide +kernel
theorem dX0_laid_11 : decode cX0_laid 11 = .ok (.goto 8, 3) := by decide +kernel
theorem dX0_laid_14 : decode cX0_laid 14 = .ok (.iload_n 0, 1) := by decide +kernel
theorem dX0_laid_15 : decode cX0_laid 15 = .ok (.sipush 200, 3) := by decide +kernel
theorem dX0_laid_18 : decode cX0_laid 18 = .ok (.isub, 1) := by decide +kernel
theorem dX0_laid_19 : decode cX0_laid 19 = .ok (.ireturn, 1) := by decide +kernel
theorem dX0_worked_0 : decode cX0_worked 0 = .ok (.aload_n 0, 1) := by decide +kernel
theorem dX0_worked_1 : decode cX0_worked 1 = .ok (.getfield 19, 3) := by decide +kernel
theorem dX0_worked_4 : decode cX0_worked 4 = .ok (.iload_n 2, 1) := by decide +kernel
theorem dX0_worked_5 : decode cX0_worked 5 = .ok (.iaload, 1) := by decide +kernel
theorem dX0_worked_6 : decode cX0_worked 6 = .ok (.istore_n 3, 1) := by decide +kernel
theorem dX0_worked_7 : decode cX0_worked 7 = .ok (.iload_n 1, 1) := by decide +kernel
theorem dX0_worked_8 : decode cX0_worked 8 = .ok (.bipush 17, 2) := by decide +kernel
theorem dX0_worked_10 : decode cX0_worked 10 = .ok (.if_icmp .ne 7, 3) := by decide +kernel
theorem dX0_worked_13 : decode cX0_worked 13 = .ok (.iconst 0, 1) := by decide +kernel
theorem dX0_worked_14 : decode cX0_worked 14 = .ok (.goto 11, 3) := by decide +kernel
theorem dX0_worked_17 : decode cX0_worked 17 = .ok (.aload_n 0, 1) := by decide +kernel
theorem dX0_worked_18 : decode cX0_worked 18 = .ok (.getfield 19, 3) := by decide +kernel
theorem dX0_worked_21 : decode cX0_worked 21 = .ok (.iload_n 2, 1) := by decide +kernel
theorem dX0_worked_22 : decode cX0_worked 22 = .ok (.iconst 1, 1) := by decide +kernel
theorem dX0_worked_23 : decode cX0_worked 23 = .ok (.iadd, 1) := by decide +kernel
theorem dX0_worked_24 : decode cX0_worked 24 = .ok (.iaload, 1) := by decide +kernel
theorem dX0_worked_25 : decode cX0_worked 25 = .ok (.istore 4, 2) := by decide +kernel
theorem dX0_worked_27 : decode cX0_worked 27 = .ok (.iload_n 1, 1) := by decide +kernel
theorem dX0_worked_28 : decode cX0_worked 28 = .ok (.tableswitch 113 10 16 #[44, 49, 54, 59, 71, 83, 98], 44) := by decide +kernel
theorem dX0_worked_72 : decode cX0_worked 72 = .ok (.iload_n 3, 1) := by decide +kernel
theorem dX0_worked_73 : decode cX0_worked 73 = .ok (.iload 4, 2) := by decide +kernel
theorem dX0_worked_75 : decode cX0_worked 75 = .ok (.iadd, 1) := by decide +kernel
theorem dX0_worked_76 : decode cX0_worked 76 = .ok (.ireturn, 1) := by decide +kernel
theorem dX0_worked_77 : decode cX0_worked 77 = .ok (.iload_n 3, 1) := by decide +kernel
theorem dX0_worked_78 : decode cX0_worked 78 = .ok (.iload 4, 2) := by decide +kernel
theorem dX0_worked_80 : decode cX0_worked 80 = .ok (.isub, 1) := by decide +kernel
theorem dX0_worked_81 : decode cX0_worked 81 = .ok (.ireturn, 1) := by decide +kernel
theorem dX0_worked_82 : decode cX0_worked 82 = .ok (.iload_n 3, 1) := by decide +kernel
theorem dX0_worked_83 : decode cX0_worked 83 = .ok (.iload 4, 2) := by decide +kernel
theorem dX0_worked_85 : decode cX0_worked 85 = .ok (.imul, 1) := by decide +kernel
theorem dX0_worked_86 : decode cX0_worked 86 = .ok (.ireturn, 1) := by decide +kernel
theorem dX0_worked_87 : decode cX0_worked 87 = .ok (.iload_n 3, 1) := by decide +kernel
theorem dX0_worked_88 : decode cX0_worked 88 = .ok (.iload 4, 2) := by decide +kernel
theorem dX0_worked_90 : decode cX0_worked 90 = .ok (.if_icmp .ge 7, 3) := by decide +kernel
theorem dX0_worked_93 : decode cX0_worked 93 = .ok (.iconst 1, 1) := by decide +kernel
theorem dX0_worked_94 : decode cX0_worked 94 = .ok (.goto 4, 3) := by decide +kernel
theorem dX0_worked_97 : decode cX0_worked 97 = .ok (.iconst 0, 1) := by decide +kernel
theorem dX0_worked_98 : decode cX0_worked 98 = .ok (.ireturn, 1) := by decide +kernel
theorem dX0_worked_99 : decode cX0_worked 99 = .ok (.iload_n 3, 1) := by decide +kernel
theorem dX0_worked_100 : decode cX0_worked 100 = .ok (.iload 4, 2) := by decide +kernel
theorem dX0_worked_102 : decode cX0_worked 102 = .ok (.if_icmp .ne 7, 3) := by decide +kernel
theorem dX0_worked_105 : decode cX0_worked 105 = .ok (.iconst 1, 1) := by decide +kernel
theorem dX0_worked_106 : decode cX0_worked 106 = .ok (.goto 4, 3) := by decide +kernel
theorem dX0_worked_109 : decode cX0_worked 109 = .ok (.iconst 0, 1) := by decide +kernel
theorem dX0_worked_110 : decode cX0_worked 110 = .ok (.ireturn, 1) := by decide +kernel
theorem dX0_worked_111 : decode cX0_worked 111 = .ok (.iload_n 3, 1) := by decide +kernel
theorem dX0_worked_112 : decode cX0_worked 112 = .ok (.ifCond .eq 12, 3) := by decide +kernel
theorem dX0_worked_115 : decode cX0_worked 115 = .ok (.iload 4, 2) := by decide +kernel
theorem dX0_worked_117 : decode cX0_worked 117 = .ok (.ifCond .eq 7, 3) := by decide +kernel
theorem dX0_worked_120 : decode cX0_worked 120 = .ok (.iconst 1, 1) := by decide +kernel
theorem dX0_worked_121 : decode cX0_worked 121 = .ok (.goto 4, 3) := by decide +kernel
theorem dX0_worked_124 : decode cX0_worked 124 = .ok (.iconst 0, 1) := by decide +kernel
theorem dX0_worked_125 : decode cX0_worked 125 = .ok (.ireturn, 1) := by decide +kernel
theorem dX0_worked_126 : decode cX0_worked 126 = .ok (.iload_n 3, 1) := by decide +kernel
theorem dX0_worked_127 : decode cX0_worked 127 = .ok (.ifCond .ne 8, 3) := by decide +kernel
theorem dX0_worked_130 : decode cX0_worked 130 = .ok (.iload 4, 2) := by decide +kernel
theorem dX0_worked_132 : decode cX0_worked 132 = .ok (.ifCond .eq 7, 3) := by decide +kernel
theorem dX0_worked_135 : decode cX0_worked 135 = .ok (.iconst 1, 1) := by decide +kernel
theorem dX0_worked_136 : decode cX0_worked 136 = .ok (.goto 4, 3) := by decide +kernel
theorem dX0_worked_139 : decode cX0_worked 139 = .ok (.iconst 0, 1) := by decide +kernel
theorem dX0_worked_140 : decode cX0_worked 140 = .ok (.ireturn, 1) := by decide +kernel
theorem dX0_worked_141 : decode cX0_worked 141 = .ok (.iload_n 3, 1) := by decide +kernel
theorem dX0_worked_142 : decode cX0_worked 142 = .ok (.ifCond .ne 7, 3) := by decide +kernel
theorem dX0_worked_145 : decode cX0_worked 145 = .ok (.iconst 1, 1) := by decide +kernel
theorem dX0_worked_146 : decode cX0_worked 146 = .ok (.goto 4, 3) := by decide +kernel
theorem dX0_worked_149 : decode cX0_worked 149 = .ok (.iconst 0, 1) := by decide +kernel
theorem dX0_worked_150 : decode cX0_worked 150 = .ok (.ireturn, 1) := by decide +kernel
theorem dX1_init_0 : decode cX1_init 0 = .ok (.aload_n 0, 1) := by decide +kernel
theorem dX1_init_1 : decode cX1_init 1 = .ok (.invokespecial 3, 3) := by decide +kernel
theorem dX1_init_4 : decode cX1_init 4 = .ok (.aload_n 0, 1) := by decide +kernel
theorem dX1_init_5 : decode cX1_init 5 = .ok (.iload_n 1, 1) := by decide +kernel
theorem dX1_init_6 : decode cX1_init 6 = .ok (.putfield 9, 3) := by decide +kernel
theorem dX1_init_9 : decode cX1_init 9 = .ok (.aload_n 0, 1) := by decide +kernel
theorem dX1_init_10 : decode cX1_init 10 = .ok (.iload_n 2, 1) := by decide +kernel
theorem dX1_init_11 : decode cX1_init 11 = .ok (.putfield 15, 3) := by decide +kernel
theorem dX1_init_14 : decode cX1_init 14 = .ok (.aload_n 0, 1) := by decide +kernel
theorem dX1_init_15 : decode cX1_init 15 = .ok (.iload_n 3, 1) := by decide +kernel
theorem dX1_init_16 : decode cX1_init 16 = .ok (.putfield 18, 3) := by decide +kernel
theorem dX1_init_19 : decode cX1_init 19 = .ok (.aload_n 0, 1) := by decide +kernel
theorem dX1_init_20 : decode cX1_init 20 = .ok (.iload 4, 2) := by decide +kernel
theorem dX1_init_22 : decode cX1_init 22 = .ok (.putfield 21, 3) := by decide +kernel
theorem dX1_init_25 : decode cX1_init 25 = .ok (.return_, 1) := by decide +kernel
set_option maxRecDepth 20000 in
theorem ggX1_target_X1_refers : GoodIn wsX1_target wsX1_refers := goodIn_r _ [7, 8, 2, 9, 10, 11, 12, 13, 14, 15, 16, 17, 18, 19, 25, 26, 27, 28, 29, 30] (by decide +kernel) (by decide +kernel)
set_option maxRecDepth 20000 in
theorem gX1_target_X1_refers : GoodIn wsX1_target (wsV RX1 24 RX1 yX1_refers wsX1_refers) := goodIn_app (goodIn_of _ (by decide +kernel)) ggX1_target_X1_refers
set_option maxRecDepth 20000 in
theorem ggX1_target_X2_at : GoodIn wsX1_target wsX2_at := goodIn_r _ [18, 19, 29, 30] (by decide +kernel) (by decide +kernel)
set_option maxRecDepth 20000 in
theorem gX1_target_X2_at : GoodIn wsX1_target (wsV RX1 28 RX2 yX2_at wsX2_at) := goodIn_app (goodIn_of _ (by decide +kernel)) ggX1_target_X2_at
set_option maxRecDepth 20000 in
theorem ggX1_target_X2_find : GoodIn wsX1_target wsX2_find := goodIn_r _ [23, 14, 24, 16, 17, 12, 18, 19, 29, 30] (by decide +kernel) (by decide +kernel)
set_option maxRecDepth 20000 in
theorem gX1_target_X2_find : GoodIn wsX1_target (wsV RX1 34 RX2 yX2_find wsX2_find) := goodIn_app (goodIn_of _ (by decide +kernel)) ggX1_target_X2_find
theorem dX1_target_0 : decode cX1_target 0 = .ok (.aload_n 0, 1) := by decide +kernel
theorem dX1_target_1 : decode cX1_target 1 = .ok (.aload_n 1, 1) := by decide +kernel
theorem dX1_target_2 : decode cX1_target 2 = .ok (.iload_n 2, 1) := by decide +kernel
theorem dX1_target_3 : decode cX1_target 3 = .ok (.invokevirtual 24, 3) := by decide +kernel
theorem dX1_target_6 : decode cX1_target 6 = .ok (.ifCond .eq 23, 3) := by decide +kernel
theorem dX1_target_9 : decode cX1_target 9 = .ok (.aload_n 1, 1) := by decide +kernel
theorem dX1_target_10 : decode cX1_target 10 = .ok (.aload_n 0, 1) := by decide +kernel
theorem dX1_target_11 : decode cX1_target 11 = .ok (.getfield 18, 3) := by decide +kernel
theorem dX1_target_14 : decode cX1_target 14 = .ok (.aload_n 1, 1) := by decide +kernel
theorem dX1_target_15 : decode cX1_target 15 = .ok (.iload_n 2, 1) := by decide +kernel
theorem dX1_target_16 : decode cX1_target 16 = .ok (.aload_n 0, 1) := by decide +kernel
theorem dX1_target_17 : decode cX1_target 17 = .ok (.getfield 15, 3) := by decide +kernel
theorem dX1_target_20 : decode cX1_target 20 = .ok (.invokevirtual 28, 3) := by decide +kernel
theorem dX1_target_23 : decode cX1_target 23 = .ok (.invokevirtual 34, 3) := by decide +kernel
theorem dX1_target_26 : decode cX1_target 26 = .ok (.goto 4, 3) := by decide +kernel
theorem dX1_target_29 : decode cX1_target 29 = .ok (.iconst (-1), 1) := by decide +kernel
theorem dX1_target_30 : decode cX1_target 30 = .ok (.ireturn, 1) := by decide +kernel
set_option maxRecDepth 20000 in
theorem ggX1_isBroken_X1_refers : GoodIn wsX1_isBroken wsX1_refers := goodIn_r _ [5, 6, 7, 8, 9, 10, 11, 12, 13, 14, 15, 16, 17, 18, 29, 30, 31, 32, 33, 34] (by decide +kernel) (by decide +kernel)
set_option maxRecDepth 20000 in
theorem gX1_isBroken_X1_refers : GoodIn wsX1_isBroken (wsV RX1 24 RX1 yX1_refers wsX1_refers) := goodIn_app (goodIn_of _ (by decide +kernel)) ggX1_isBroken_X1_refers
set_option maxRecDepth 20000 in
theorem ggX1_isBroken_X1_target : GoodIn wsX1_isBroken wsX1_target := goodIn_r _ [22, 23, 7, 1, 2, 3, 4, 5, 6, 8, 9, 10, 11, 12, 13, 14, 15, 16, 17, 18, 24, 25, 26, 27, 28, 29, 30, 31, 32, 33, 34] (by decide +kernel) (by decide +kernel)
set_option maxRecDepth 20000 in
theorem gX1_isBroken_X1_target : GoodIn wsX1_isBroken (wsV RX1 37 RX1 yX1_target wsX1_target) := goodIn_app (goodIn_of _ (by decide +kernel)) ggX1_isBroken_X1_target
theorem dX1_isBroken_0 : decode cX1_isBroken 0 = .ok (.iconst 0, 1) := by decide +kernel
theorem dX1_isBroken_1 : decode cX1_isBroken 1 = .ok (.istore_n 2, 1) := by decide +kernel
theorem dX1_isBroken_2 : decode cX1_isBroken 2 = .ok (.iload_n 2, 1) := by decide +kernel
theorem dX1_isBroken_3 : decode cX1_isBroken 3 = .ok (.bipush 24, 2) := by decide +kernel
theorem dX1_isBroken_5 : decode cX1_isBroken 5 = .ok (.if_icmp .ge 30, 3) := by decide +kernel
theorem dX1_isBroken_8 : decode cX1_isBroken 8 = .ok (.aload_n 0, 1) := by decide +kernel
theorem dX1_isBroken_9 : decode cX1_isBroken 9 = .ok (.aload_n 1, 1) := by decide +kernel
theorem dX1_isBroken_10 : decode cX1_isBroken 10 = .ok (.iload_n 2, 1) := by decide +kernel
theorem dX1_isBroken_11 : decode cX1_isBroken 11 = .ok (.invokevirtual 24, 3) := by decide +kernel
theorem dX1_isBroken_14 : decode cX1_isBroken 14 = .ok (.ifCond .eq 15, 3) := by decide +kernel
theorem dX1_isBroken_17 : decode cX1_isBroken 17 = .ok (.aload_n 0, 1) := by decide +kernel
theorem dX1_isBroken_18 : decode cX1_isBroken 18 = .ok (.aload_n 1, 1) := by decide +kernel
theorem dX1_isBroken_19 : decode cX1_isBroken 19 = .ok (.iload_n 2, 1) := by decide +kernel
theorem dX1_isBroken_20 : decode cX1_isBroken 20 = .ok (.invokevirtual 37, 3) := by decide +kernel
theorem dX1_isBroken_23 : decode cX1_isBroken 23 = .ok (.iconst (-1), 1) := by decide +kernel
theorem dX1_isBroken_24 : decode cX1_isBroken 24 = .ok (.if_icmp .ne 5, 3) := by decide +kernel
theorem dX1_isBroken_27 : decode cX1_isBroken 27 = .ok (.iconst 1, 1) := by decide +kernel
theorem dX1_isBroken_28 : decode cX1_isBroken 28 = .ok (.ireturn, 1) := by decide +kernel
theorem dX1_isBroken_29 : decode cX1_isBroken 29 = .ok (.iinc 2 1, 3) := by decide +kernel
theorem dX1_isBroken_32 : decode cX1_isBroken 32 = .ok (.goto (-30), 3) := by decide +kernel
theorem dX1_isBroken_35 : decode cX1_isBroken 35 = .ok (.iconst 0, 1) := by decide +kernel
theorem dX1_isBroken_36 : decode cX1_isBroken 36 = .ok (.ireturn, 1) := by decide +kernel
set_option maxRecDepth 20000 in
theorem ggX1_refers_X2_holds : GoodIn wsX1_refers wsX2_holds := goodIn_r _ [7, 8, 18, 19] (by decide +kernel) (by decide +kernel)
set_option maxRecDepth 20000 in
theorem gX1_refers_X2_holds : GoodIn wsX1_refers (wsV RX1 41 RX2 yX2_holds wsX2_holds) := goodIn_app (goodIn_of _ (by decide +kernel)) ggX1_refers_X2_holds
set_option maxRecDepth 20000 in
theorem ggX1_refers_X2_at : GoodIn wsX1_refers wsX2_at := goodIn_r _ [12, 13, 18, 19] (by decide +kernel) (by decide +kernel)
set_option maxRecDepth 20000 in
theorem gX1_refers_X2_at : GoodIn wsX1_refers (wsV RX1 28 RX2 yX2_at wsX2_at) := goodIn_app (goodIn_of _ (by decide +kernel)) ggX1_refers_X2_at
theorem dX1_refers_0 : decode cX1_refers 0 = .ok (.aload_n 1, 1) := by decide +kernel
theorem dX1_refers_1 : decode cX1_refers 1 = .ok (.iload_n 2, 1) := by decide +kernel
theorem dX1_refers_2 : decode cX1_refers 2 = .ok (.aload_n 0, 1) := by decide +kernel
theorem dX1_refers_3 : decode cX1_refers 3 = .ok (.getfield 9, 3) := by decide +kernel
theorem dX1_refers_6 : decode cX1_refers 6 = .ok (.invokevirtual 41, 3) := by decide +kernel
theorem dX1_refers_9 : decode cX1_refers 9 = .ok (.ifCond .eq 19, 3) := by decide +kernel
theorem dX1_refers_12 : decode cX1_refers 12 = .ok (.aload_n 1, 1) := by decide +kernel
theorem dX1_refers_13 : decode cX1_refers 13 = .ok (.iload_n 2, 1) := by decide +kernel
theorem dX1_refers_14 : decode cX1_refers 14 = .ok (.aload_n 0, 1) := by decide +kernel
theorem dX1_refers_15 : decode cX1_refers 15 = .ok (.getfield 15, 3) := by decide +kernel
theorem dX1_refers_18 : decode cX1_refers 18 = .ok (.invokevirtual 28, 3) := by decide +kernel
theorem dX1_refers_21 : decode cX1_refers 21 = .ok (.ifCond .eq 7, 3) := by decide +kernel
theorem dX1_refers_24 : decode cX1_refers 24 = .ok (.iconst 1, 1) := by decide +kernel
theorem dX1_refers_25 : decode cX1_refers 25 = .ok (.goto 4, 3) := by decide +kernel
theorem dX1_refers_28 : decode cX1_refers 28 = .ok (.iconst 0, 1) := by decide +kernel
theorem dX1_refers_29 : decode cX1_refers 29 = .ok (.ireturn, 1) := by decide +kernel
set_option maxRecDepth 20000 in
theorem ggX2_init_J7_fill_53178 : GoodIn wsX2_init wsJ7_fill_53178 := goodIn_r _ [10] (by decide +kernel) (by decide +kernel)
set_option maxRecDepth 20000 in
theorem gX2_init_J7_fill_53178 : GoodIn wsX2_init (va_wsS RX2 18 yJ7_fill_53178 wsJ7_fill_53178) := goodIn_app (goodIn_of _ (by decide +kernel)) ggX2_init_J7_fill_53178
theorem dX2_init_0 : decode cX2_init 0 = .ok (.aload_n 0, 1) := by decide +kernel
theorem dX2_init_1 : decode cX2_init 1 = .ok (.invokespecial 3, 3) := by decide +kernel
theorem dX2_init_4 : decode cX2_init 4 = .ok (.aload_n 0, 1) := by decide +kernel
theorem dX2_init_5 : decode cX2_init 5 = .ok (.bipush 24, 2) := by decide +kernel
theorem dX2_init_7 : decode cX2_init 7 = .ok (.newarray .int, 2) := by decide +kernel
theorem dX2_init_9 : decode cX2_init 9 = .ok (.putfield 9, 3) := by decide +kernel
theorem dX2_init_12 : decode cX2_init 12 = .ok (.aload_n 0, 1) := by decide +kernel
theorem dX2_init_13 : decode cX2_init 13 = .ok (.bipush 96, 2) := by decide +kernel
theorem dX2_init_15 : decode cX2_init 15 = .ok (.newarray .int, 2) := by decide +kernel
theorem dX2_init_17 : decode cX2_init 17 = .ok (.putfield 15, 3) := by decide +kernel
theorem dX2_init_20 : decode cX2_init 20 = .ok (.aload_n 0, 1) := by decide +kernel
theorem dX2_init_21 : decode cX2_init 21 = .ok (.getfield 9, 3) := by decide +kernel
theorem dX2_init_24 : decode cX2_init 24 = .ok (.iconst (-1), 1) := by decide +kernel
theorem dX2_init_25 : decode cX2_init 25 = .ok (.invokestatic 18, 3) := by decide +kernel
theorem dX2_init_28 : decode cX2_init 28 = .ok (.return_, 1) := by decide +kernel
theorem dX2_become_0 : decode cX2_become 0 = .ok (.aload_n 1, 1) := by decide +kernel
theorem dX2_become_1 : decode cX2_become 1 = .ok (.getfield 9, 3) := by decide +kernel
theorem dX2_become_4 : decode cX2_become 4 = .ok (.iconst 0, 1) := by decide +kernel
theorem dX2_become_5 : decode cX2_become 5 = .ok (.aload_n 0, 1) := by decide +kernel
theorem dX2_become_6 : decode cX2_become 6 = .ok (.getfield 9, 3) := by decide +kernel
theorem dX2_become_9 : decode cX2_become 9 = .ok (.iconst 0, 1) := by decide +kernel
theorem dX2_become_10 : decode cX2_become 10 = .ok (.bipush 24, 2) := by decide +kernel
theorem dX2_become_12 : decode cX2_become 12 = .ok (.invokestatic 24, 3) := by decide +kernel
theorem dX2_become_15 : decode cX2_become 15 = .ok (.aload_n 1, 1) := by decide +kernel
theorem dX2_become_16 : decode cX2_become 16 = .ok (.getfield 15, 3) := by decide +kernel
theorem dX2_become_19 : decode cX2_become 19 = .ok (.iconst 0, 1) := by decide +kernel
theorem dX2_become_20 : decode cX2_become 20 = .ok (.aload_n 0, 1) := by decide +kernel
theorem dX2_become_21 : decode cX2_become 21 = .ok (.getfield 15, 3) := by decide +kernel
theorem dX2_become_24 : decode cX2_become 24 = .ok (.iconst 0, 1) := by decide +kernel
theorem dX2_become_25 : decode cX2_become 25 = .ok (.bipush 96, 2) := by decide +kernel
theorem dX2_become_27 : decode cX2_become 27 = .ok (.invokestatic 24, 3) := by decide +kernel
theorem dX2_become_30 : decode cX2_become 30 = .ok (.return_, 1) := by decide +kernel
theorem dX2_holds_0 : decode cX2_holds 0 = .ok (.aload_n 0, 1) := by decide +kernel
theorem dX2_holds_1 : decode cX2_holds 1 = .ok (.getfield 9, 3) := by decide +kernel
theorem dX2_holds_4 : decode cX2_holds 4 = .ok (.iload_n 1, 1) := by decide +kernel
theorem dX2_holds_5 : decode cX2_holds 5 = .ok (.iaload, 1) := by decide +kernel
theorem dX2_holds_6 : decode cX2_holds 6 = .ok (.iload_n 2, 1) := by decide +kernel
theorem dX2_holds_7 : decode cX2_holds 7 = .ok (.if_icmp .ne 7, 3) := by decide +kernel
theorem dX2_holds_10 : decode cX2_holds 10 = .ok (.iconst 1, 1) := by decide +kernel
theorem dX2_holds_11 : decode cX2_holds 11 = .ok (.goto 4, 3) := by decide +kernel
theorem dX2_holds_14 : decode cX2_holds 14 = .ok (.iconst 0, 1) := by decide +kernel
theorem dX2_holds_15 : decode cX2_holds 15 = .ok (.ireturn, 1) := by decide +kernel
theorem dX2_at_0 : decode cX2_at 0 = .ok (.aload_n 0, 1) := by decide +kernel
theorem dX2_at_1 : decode cX2_at 1 = .ok (.getfield 15, 3) := by decide +kernel
theorem dX2_at_4 : decode cX2_at 4 = .ok (.iload_n 1, 1) := by decide +kernel
theorem dX2_at_5 : decode cX2_at 5 = .ok (.iconst 4, 1) := by decide +kernel
theorem dX2_at_6 : decode cX2_at 6 = .ok (.imul, 1) := by decide +kernel
theorem dX2_at_7 : decode cX2_at 7 = .ok (.iload_n 2, 1) := by decide +kernel
theorem dX2_at_8 : decode cX2_at 8 = .ok (.iadd, 1) := by decide +kernel
theorem dX2_at_9 : decode cX2_at 9 = .ok (.iaload, 1) := by decide +kernel
theorem dX2_at_10 : decode cX2_at 10 = .ok (.ireturn, 1) := by decide +kernel
theorem dX2_put_0 : decode cX2_put 0 = .ok (.aload_n 0, 1) := by decide +kernel
theorem dX2_put_1 : decode cX2_put 1 = .ok (.getfield 15, 3) := by decide +kernel
theorem dX2_put_4 : decode cX2_put 4 = .ok (.iload_n 1, 1) := by decide +kernel
theorem dX2_put_5 : decode cX2_put 5 = .ok (.iconst 4, 1) := by decide +kernel
theorem dX2_put_6 : decode cX2_put 6 = .ok (.imul, 1) := by decide +kernel
theorem dX2_put_7 : decode cX2_put 7 = .ok (.iload_n 2, 1) := by decide +kernel
theorem dX2_put_8 : decode cX2_put 8 = .ok (.iadd, 1) := by decide +kernel
theorem dX2_put_9 : decode cX2_put 9 = .ok (.iload_n 3, 1) := by decide +kernel
theorem dX2_put_10 : decode cX2_put 10 = .ok (.iastore, 1) := by decide +kernel
theorem dX2_put_11 : decode cX2_put 11 = .ok (.return_, 1) := by decide +kernel
theorem dX2_add_0 : decode cX2_add 0 = .ok (.aload_n 0, 1) := by decide +kernel
theorem dX2_add_1 : decode cX2_add 1 = .ok (.getfield 9, 3) := by decide +kernel
theorem dX2_add_4 : decode cX2_add 4 = .ok (.iload_n 1, 1) := by decide +kernel
theorem dX2_add_5 : decode cX2_add 5 = .ok (.iload_n 2, 1) := by decide +kernel
theorem dX2_add_6 : decode cX2_add 6 = .ok (.iastore, 1) := by decide +kernel
theorem dX2_add_7 : decode cX2_add 7 = .ok (.return_, 1) := by decide +kernel
theorem dX2_remove_0 : decode cX2_remove 0 = .ok (.aload_n 0, 1) := by decide +kernel
theorem dX2_remove_1 : decode cX2_remove 1 = .ok (.getfield 9, 3) := by decide +kernel
theorem dX2_remove_4 : decode cX2_remove 4 = .ok (.iload_n 1, 1) := by decide +kernel
theorem dX2_remove_5 : decode cX2_remove 5 = .ok (.iconst (-1), 1) := by decide +kernel
theorem dX2_remove_6 : decode cX2_remove 6 = .ok (.iastore, 1) := by decide +kernel
theorem dX2_remove_7 : decode cX2_remove 7 = .ok (.return_, 1) := by decide +kernel
theorem dX2_freePlace_0 : decode cX2_freePlace 0 = .ok (.iconst 0, 1) := by decide +kernel
theorem dX2_freePlace_1 : decode cX2_freePlace 1 = .ok (.istore_n 1, 1) := by decide +kernel
theorem dX2_freePlace_2 : decode cX2_freePlace 2 = .ok (.iload_n 1, 1) := by decide +kernel
theorem dX2_freePlace_3 : decode cX2_freePlace 3 = .ok (.bipush 24, 2) := by decide +kernel
theorem dX2_freePlace_5 : decode cX2_freePlace 5 = .ok (.if_icmp .ge 21, 3) := by decide +kernel
theorem dX2_freePlace_8 : decode cX2_freePlace 8 = .ok (.aload_n 0, 1) := by decide +kernel
theorem dX2_freePlace_9 : decode cX2_freePlace 9 = .ok (.getfield 9, 3) := by decide +kernel
theorem dX2_freePlace_12 : decode cX2_freePlace 12 = .ok (.iload_n 1, 1) := by decide +kernel
theorem dX2_freePlace_13 : decode cX2_freePlace 13 = .ok (.iaload, 1) := by decide +kernel
theorem dX2_freePlace_14 : decode cX2_freePlace 14 = .ok (.iconst (-1), 1) := by decide +kernel
theorem dX2_freePlace_15 : decode cX2_freePlace 15 = .ok (.if_icmp .ne 5, 3) := by decide +kernel
theorem dX2_freePlace_18 : decode cX2_freePlace 18 = .ok (.iload_n 1, 1) := by decide +kernel
theorem dX2_freePlace_19 : decode cX2_freePlace 19 = .ok (.ireturn, 1) := by decide +kernel
theorem dX2_freePlace_20 : decode cX2_freePlace 20 = .ok (.iinc 1 1, 3) := by decide +kernel
theorem dX2_freePlace_23 : decode cX2_freePlace 23 = .ok (.goto (-21), 3) := by decide +kernel
theorem dX2_freePlace_26 : decode cX2_freePlace 26 = .ok (.iconst (-1), 1) := by decide +kernel
theorem dX2_freePlace_27 : decode cX2_freePlace 27 = .ok (.ireturn, 1) := by decide +kernel
theorem dX2_size_0 : decode cX2_size 0 = .ok (.iconst 0, 1) := by decide +kernel
theorem dX2_size_1 : decode cX2_size 1 = .ok (.istore_n 2, 1) := by decide +kernel
theorem dX2_size_2 : decode cX2_size 2 = .ok (.iconst 0, 1) := by decide +kernel
theorem dX2_size_3 : decode cX2_size 3 = .ok (.istore_n 3, 1) := by decide +kernel
theorem dX2_size_4 : decode cX2_size 4 = .ok (.iload_n 3, 1) := by decide +kernel
theorem dX2_size_5 : decode cX2_size 5 = .ok (.bipush 24, 2) := by decide +kernel
theorem dX2_size_7 : decode cX2_size 7 = .ok (.if_icmp .ge 22, 3) := by decide +kernel
theorem dX2_size_10 : decode cX2_size 10 = .ok (.aload_n 0, 1) := by decide +kernel
theorem dX2_size_11 : decode cX2_size 11 = .ok (.getfield 9, 3) := by decide +kernel
theorem dX2_size_14 : decode cX2_size 14 = .ok (.iload_n 3, 1) := by decide +kernel
theorem dX2_size_15 : decode cX2_size 15 = .ok (.iaload, 1) := by decide +kernel
theorem dX2_size_16 : decode cX2_size 16 = .ok (.iload_n 1, 1) := by decide +kernel
theorem dX2_size_17 : decode cX2_size 17 = .ok (.if_icmp .ne 6, 3) := by decide +kernel
theorem dX2_size_20 : decode cX2_size 20 = .ok (.iinc 2 1, 3) := by decide +kernel
theorem dX2_size_23 : decode cX2_size 23 = .ok (.iinc 3 1, 3) := by decide +kernel
theorem dX2_size_26 : decode cX2_size 26 = .ok (.goto (-22), 3) := by decide +kernel
theorem dX2_size_29 : decode cX2_size 29 = .ok (.iload_n 2, 1) := by decide +kernel
theorem dX2_size_30 : decode cX2_size 30 = .ok (.ireturn, 1) := by decide +kernel
set_option maxRecDepth 20000 in
theorem ggX2_find_X2_at : GoodIn wsX2_find wsX2_at := goodIn_r _ [6, 7, 8, 9] (by decide +kernel) (by decide +kernel)
set_option maxRecDepth 20000 in
theorem gX2_find_X2_at : GoodIn wsX2_find (wsV RX2 30 RX2 yX2_at wsX2_at) := goodIn_app (goodIn_of _ (by decide +kernel)) ggX2_find_X2_at
theorem dX2_find_0 : decode cX2_find 0 = .ok (.iconst 0, 1) := by decide +kernel
theorem dX2_find_1 : decode cX2_find 1 = .ok (.istore_n 3, 1) := by decide +kernel
theorem dX2_find_2 : decode cX2_find 2 = .ok (.iload_n 3, 1) := by decide +kernel
theorem dX2_find_3 : decode cX2_find 3 = .ok (.bipush 24, 2) := by decide +kernel
theorem dX2_find_5 : decode cX2_find 5 = .ok (.if_icmp .ge 31, 3) := by decide +kernel
theorem dX2_find_8 : decode cX2_find 8 = .ok (.aload_n 0, 1) := by decide +kernel
theorem dX2_find_9 : decode cX2_find 9 = .ok (.getfield 9, 3) := by decide +kernel
theorem dX2_find_12 : decode cX2_find 12 = .ok (.iload_n 3, 1) := by decide +kernel
theorem dX2_find_13 : decode cX2_find 13 = .ok (.iaload, 1) := by decide +kernel
theorem dX2_find_14 : decode cX2_find 14 = .ok (.iload_n 1, 1) := by decide +kernel
theorem dX2_find_15 : decode cX2_find 15 = .ok (.if_icmp .ne 15, 3) := by decide +kernel
theorem dX2_find_18 : decode cX2_find 18 = .ok (.aload_n 0, 1) := by decide +kernel
theorem dX2_find_19 : decode cX2_find 19 = .ok (.iload_n 3, 1) := by decide +kernel
theorem dX2_find_20 : decode cX2_find 20 = .ok (.iconst 0, 1) := by decide +kernel
theorem dX2_find_21 : decode cX2_find 21 = .ok (.invokevirtual 30, 3) := by decide +kernel
theorem dX2_find_24 : decode cX2_find 24 = .ok (.iload_n 2, 1) := by decide +kernel
theorem dX2_find_25 : decode cX2_find 25 = .ok (.if_icmp .ne 5, 3) := by decide +kernel
theorem dX2_find_28 : decode cX2_find 28 = .ok (.iload_n 3, 1) := by decide +kernel
theorem dX2_find_29 : decode cX2_find 29 = .ok (.ireturn, 1) := by decide +kernel
theorem dX2_find_30 : decode cX2_find 30 = .ok (.iinc 3 1, 3) := by decide +kernel
theorem dX2_find_33 : decode cX2_find 33 = .ok (.goto (-31), 3) := by decide +kernel
theorem dX2_find_36 : decode cX2_find 36 = .ok (.iconst (-1), 1) := by decide +kernel
theorem dX2_find_37 : decode cX2_find 37 = .ok (.ireturn, 1) := by decide +kernel
set_option maxRecDepth 20000 in
theorem ggX2_placeOfRank_X2_at : GoodIn wsX2_placeOfRank wsX2_at := goodIn_r _ [6, 7, 12, 13] (by decide +kernel) (by decide +kernel)
set_option maxRecDepth 20000 in
theorem gX2_placeOfRank_X2_at : GoodIn wsX2_placeOfRank (wsV RX2 30 RX2 yX2_at wsX2_at) := goodIn_app (goodIn_of _ (by decide +kernel)) ggX2_placeOfRank_X2_at
set_option maxRecDepth 20000 in
theorem ggX2_placeOfRank_X2_lesserKeys : GoodIn wsX2_placeOfRank wsX2_lesserKeys := goodIn_r _ [11, 1, 2, 3, 4, 5, 6, 7, 12, 13] (by decide +kernel) (by decide +kernel)
set_option maxRecDepth 20000 in
theorem gX2_placeOfRank_X2_lesserKeys : GoodIn wsX2_placeOfRank (wsV RX2 34 RX2 yX2_lesserKeys wsX2_lesserKeys) := goodIn_app (goodIn_of _ (by decide +kernel)) ggX2_placeOfRank_X2_lesserKeys
theorem dX2_placeOfRank_0 : decode cX2_placeOfRank 0 = .ok (.iconst 0, 1) := by decide +kernel
theorem dX2_placeOfRank_1 : decode cX2_placeOfRank 1 = .ok (.istore_n 3, 1) := by decide +kernel
theorem dX2_placeOfRank_2 : decode cX2_placeOfRank 2 = .ok (.iload_n 3, 1) := by decide +kernel
theorem dX2_placeOfRank_3 : decode cX2_placeOfRank 3 = .ok (.bipush 24, 2) := by decide +kernel
theorem dX2_placeOfRank_5 : decode cX2_placeOfRank 5 = .ok (.if_icmp .ge 36, 3) := by decide +kernel
theorem dX2_placeOfRank_8 : decode cX2_placeOfRank 8 = .ok (.aload_n 0, 1) := by decide +kernel
theorem dX2_placeOfRank_9 : decode cX2_placeOfRank 9 = .ok (.getfield 9, 3) := by decide +kernel
theorem dX2_placeOfRank_12 : decode cX2_placeOfRank 12 = .ok (.iload_n 3, 1) := by decide +kernel
theorem dX2_placeOfRank_13 : decode cX2_placeOfRank 13 = .ok (.iaload, 1) := by decide +kernel
theorem dX2_placeOfRank_14 : decode cX2_placeOfRank 14 = .ok (.iload_n 1, 1) := by decide +kernel
theorem dX2_placeOfRank_15 : decode cX2_placeOfRank 15 = .ok (.if_icmp .ne 20, 3) := by decide +kernel
theorem dX2_placeOfRank_18 : decode cX2_placeOfRank 18 = .ok (.aload_n 0, 1) := by decide +kernel
theorem dX2_placeOfRank_19 : decode cX2_placeOfRank 19 = .ok (.iload_n 1, 1) := by decide +kernel
theorem dX2_placeOfRank_20 : decode cX2_placeOfRank 20 = .ok (.aload_n 0, 1) := by decide +kernel
theorem dX2_placeOfRank_21 : decode cX2_placeOfRank 21 = .ok (.iload_n 3, 1) := by decide +kernel
theorem dX2_placeOfRank_22 : decode cX2_placeOfRank 22 = .ok (.iconst 0, 1) := by decide +kernel
theorem dX2_placeOfRank_23 : decode cX2_placeOfRank 23 = .ok (.invokevirtual 30, 3) := by decide +kernel
theorem dX2_placeOfRank_26 : decode cX2_placeOfRank 26 = .ok (.invokevirtual 34, 3) := by decide +kernel
theorem dX2_placeOfRank_29 : decode cX2_placeOfRank 29 = .ok (.iload_n 2, 1) := by decide +kernel
theorem dX2_placeOfRank_30 : decode cX2_placeOfRank 30 = .ok (.if_icmp .ne 5, 3) := by decide +kernel
theorem dX2_placeOfRank_33 : decode cX2_placeOfRank 33 = .ok (.iload_n 3, 1) := by decide +kernel
theorem dX2_placeOfRank_34 : decode cX2_placeOfRank 34 = .ok (.ireturn, 1) := by decide +kernel
theorem dX2_placeOfRank_35 : decode cX2_placeOfRank 35 = .ok (.iinc 3 1, 3) := by decide +kernel
theorem dX2_placeOfRank_38 : decode cX2_placeOfRank 38 = .ok (.goto (-36), 3) := by decide +kernel
theorem dX2_placeOfRank_41 : decode cX2_placeOfRank 41 = .ok (.iconst (-1), 1) := by decide +kernel
theorem dX2_placeOfRank_42 : decode cX2_placeOfRank 42 = .ok (.ireturn, 1) := by decide +kernel
set_option maxRecDepth 20000 in
theorem ggX2_lesserKeys_X2_at : GoodIn wsX2_lesserKeys wsX2_at := goodIn_r _ [6, 7, 8, 9] (by decide +kernel) (by decide +kernel)
set_option maxRecDepth 20000 in
theorem gX2_lesserKeys_X2_at : GoodIn wsX2_lesserKeys (wsV RX2 30 RX2 yX2_at wsX2_at) := goodIn_app (goodIn_of _ (by decide +kernel)) ggX2_lesserKeys_X2_at
theorem dX2_lesserKeys_0 : decode cX2_lesserKeys 0 = .ok (.iconst 0, 1) := by decide +kernel
theorem dX2_lesserKeys_1 : decode cX2_lesserKeys 1 = .ok (.istore_n 3, 1) := by decide +kernel
theorem dX2_lesserKeys_2 : decode cX2_lesserKeys 2 = .ok (.iconst 0, 1) := by decide +kernel
theorem dX2_lesserKeys_3 : decode cX2_lesserKeys 3 = .ok (.istore 4, 2) := by decide +kernel
theorem dX2_lesserKeys_5 : decode cX2_lesserKeys 5 = .ok (.iload 4, 2) := by decide +kernel
theorem dX2_lesserKeys_7 : decode cX2_lesserKeys 7 = .ok (.bipush 24, 2) := by decide +kernel
theorem dX2_lesserKeys_9 : decode cX2_lesserKeys 9 = .ok (.if_icmp .ge 34, 3) := by decide +kernel
theorem dX2_lesserKeys_12 : decode cX2_lesserKeys 12 = .ok (.aload_n 0, 1) := by decide +kernel
theorem dX2_lesserKeys_13 : decode cX2_lesserKeys 13 = .ok (.getfield 9, 3) := by decide +kernel
theorem dX2_lesserKeys_16 : decode cX2_lesserKeys 16 = .ok (.iload 4, 2) := by decide +kernel
theorem dX2_lesserKeys_18 : decode cX2_lesserKeys 18 = .ok (.iaload, 1) := by decide +kernel
theorem dX2_lesserKeys_19 : decode cX2_lesserKeys 19 = .ok (.iload_n 1, 1) := by decide +kernel
theorem dX2_lesserKeys_20 : decode cX2_lesserKeys 20 = .ok (.if_icmp .ne 17, 3) := by decide +kernel
theorem dX2_lesserKeys_23 : decode cX2_lesserKeys 23 = .ok (.aload_n 0, 1) := by decide +kernel
theorem dX2_lesserKeys_24 : decode cX2_lesserKeys 24 = .ok (.iload 4, 2) := by decide +kernel
theorem dX2_lesserKeys_26 : decode cX2_lesserKeys 26 = .ok (.iconst 0, 1) := by decide +kernel
theorem dX2_lesserKeys_27 : decode cX2_lesserKeys 27 = .ok (.invokevirtual 30, 3) := by decide +kernel
theorem dX2_lesserKeys_30 : decode cX2_lesserKeys 30 = .ok (.iload_n 2, 1) := by decide +kernel
theorem dX2_lesserKeys_31 : decode cX2_lesserKeys 31 = .ok (.if_icmp .ge 6, 3) := by decide +kernel
theorem dX2_lesserKeys_34 : decode cX2_lesserKeys 34 = .ok (.iinc 3 1, 3) := by decide +kernel
theorem dX2_lesserKeys_37 : decode cX2_lesserKeys 37 = .ok (.iinc 4 1, 3) := by decide +kernel
theorem dX2_lesserKeys_40 : decode cX2_lesserKeys 40 = .ok (.goto (-35), 3) := by decide +kernel
theorem dX2_lesserKeys_43 : decode cX2_lesserKeys 43 = .ok (.iload_n 3, 1) := by decide +kernel
theorem dX2_lesserKeys_44 : decode cX2_lesserKeys 44 = .ok (.ireturn, 1) := by decide +kernel
set_option maxRecDepth 20000 in
theorem ggX2_hasTwins_X2_at : GoodIn wsX2_hasTwins wsX2_at := goodIn_r _ [6, 7, 12, 13] (by decide +kernel) (by decide +kernel)
set_option maxRecDepth 20000 in
theorem gX2_hasTwins_X2_at : GoodIn wsX2_hasTwins (wsV RX2 30 RX2 yX2_at wsX2_at) := goodIn_app (goodIn_of _ (by decide +kernel)) ggX2_hasTwins_X2_at
set_option maxRecDepth 20000 in
theorem ggX2_hasTwins_X2_hasTwinBefore : GoodIn wsX2_hasTwins wsX2_hasTwinBefore := goodIn_r _ [11, 1, 2, 3, 4, 5, 6, 7, 12, 13] (by decide +kernel) (by decide +kernel)
set_option maxRecDepth 20000 in
theorem gX2_hasTwins_X2_hasTwinBefore : GoodIn wsX2_hasTwins (wsV RX2 37 RX2 yX2_hasTwinBefore wsX2_hasTwinBefore) := goodIn_app (goodIn_of _ (by decide +kernel)) ggX2_hasTwins_X2_hasTwinBefore
theorem dX2_hasTwins_0 : decode cX2_hasTwins 0 = .ok (.iconst 1, 1) := by decide +kernel
theorem dX2_hasTwins_1 : decode cX2_hasTwins 1 = .ok (.istore_n 3, 1) := by decide +kernel
theorem dX2_hasTwins_2 : decode cX2_hasTwins 2 = .ok (.iload_n 3, 1) := by decide +kernel
theorem dX2_hasTwins_3 : decode cX2_hasTwins 3 = .ok (.bipush 24, 2) := by decide +kernel
theorem dX2_hasTwins_5 : decode cX2_hasTwins 5 = .ok (.if_icmp .ge 39, 3) := by decide +kernel
theorem dX2_hasTwins_8 : decode cX2_hasTwins 8 = .ok (.aload_n 0, 1) := by decide +kernel
theorem dX2_hasTwins_9 : decode cX2_hasTwins 9 = .ok (.getfield 9, 3) := by decide +kernel
theorem dX2_hasTwins_12 : decode cX2_hasTwins 12 = .ok (.iload_n 3, 1) := by decide +kernel
theorem dX2_hasTwins_13 : decode cX2_hasTwins 13 = .ok (.iaload, 1) := by decide +kernel
theorem dX2_hasTwins_14 : decode cX2_hasTwins 14 = .ok (.iload_n 1, 1) := by decide +kernel
theorem dX2_hasTwins_15 : decode cX2_hasTwins 15 = .ok (.if_icmp .ne 23, 3) := by decide +kernel
theorem dX2_hasTwins_18 : decode cX2_hasTwins 18 = .ok (.aload_n 0, 1) := by decide +kernel
theorem dX2_hasTwins_19 : decode cX2_hasTwins 19 = .ok (.iload_n 3, 1) := by decide +kernel
theorem dX2_hasTwins_20 : decode cX2_hasTwins 20 = .ok (.iload_n 2, 1) := by decide +kernel
theorem dX2_hasTwins_21 : decode cX2_hasTwins 21 = .ok (.invokevirtual 30, 3) := by decide +kernel
theorem dX2_hasTwins_24 : decode cX2_hasTwins 24 = .ok (.ifCond .eq 14, 3) := by decide +kernel
theorem dX2_hasTwins_27 : decode cX2_hasTwins 27 = .ok (.aload_n 0, 1) := by decide +kernel
theorem dX2_hasTwins_28 : decode cX2_hasTwins 28 = .ok (.iload_n 3, 1) := by decide +kernel
theorem dX2_hasTwins_29 : decode cX2_hasTwins 29 = .ok (.iload_n 2, 1) := by decide +kernel
theorem dX2_hasTwins_30 : decode cX2_hasTwins 30 = .ok (.invokevirtual 37, 3) := by decide +kernel
theorem dX2_hasTwins_33 : decode cX2_hasTwins 33 = .ok (.ifCond .eq 5, 3) := by decide +kernel
theorem dX2_hasTwins_36 : decode cX2_hasTwins 36 = .ok (.iconst 1, 1) := by decide +kernel
theorem dX2_hasTwins_37 : decode cX2_hasTwins 37 = .ok (.ireturn, 1) := by decide +kernel
theorem dX2_hasTwins_38 : decode cX2_hasTwins 38 = .ok (.iinc 3 1, 3) := by decide +kernel
theorem dX2_hasTwins_41 : decode cX2_hasTwins 41 = .ok (.goto (-39), 3) := by decide +kernel
theorem dX2_hasTwins_44 : decode cX2_hasTwins 44 = .ok (.iconst 0, 1) := by decide +kernel
theorem dX2_hasTwins_45 : decode cX2_hasTwins 45 = .ok (.ireturn, 1) := by decide +kernel
set_option maxRecDepth 20000 in
theorem ggX2_hasTwinBefore_X2_at : GoodIn wsX2_hasTwinBefore wsX2_at := goodIn_r _ [6, 7, 8, 9] (by decide +kernel) (by decide +kernel)
set_option maxRecDepth 20000 in
theorem gX2_hasTwinBefore_X2_at : GoodIn wsX2_hasTwinBefore (wsV RX2 30 RX2 yX2_at wsX2_at) := goodIn_app (goodIn_of _ (by decide +kernel)) ggX2_hasTwinBefore_X2_at
theorem dX2_hasTwinBefore_0 : decode cX2_hasTwinBefore 0 = .ok (.iconst 0, 1) := by decide +kernel
theorem dX2_hasTwinBefore_1 : decode cX2_hasTwinBefore 1 = .ok (.istore_n 3, 1) := by decide +kernel
theorem dX2_hasTwinBefore_2 : decode cX2_hasTwinBefore 2 = .ok (.iload_n 3, 1) := by decide +kernel
theorem dX2_hasTwinBefore_3 : decode cX2_hasTwinBefore 3 = .ok (.iload_n 1, 1) := by decide +kernel
theorem dX2_hasTwinBefore_4 : decode cX2_hasTwinBefore 4 = .ok (.if_icmp .ge 41, 3) := by decide +kernel
theorem dX2_hasTwinBefore_7 : decode cX2_hasTwinBefore 7 = .ok (.aload_n 0, 1) := by decide +kernel
theorem dX2_hasTwinBefore_8 : decode cX2_hasTwinBefore 8 = .ok (.getfield 9, 3) := by decide +kernel
theorem dX2_hasTwinBefore_11 : decode cX2_hasTwinBefore 11 = .ok (.iload_n 3, 1) := by decide +kernel
theorem dX2_hasTwinBefore_12 : decode cX2_hasTwinBefore 12 = .ok (.iaload, 1) := by decide +kernel
theorem dX2_hasTwinBefore_13 : decode cX2_hasTwinBefore 13 = .ok (.aload_n 0, 1) := by decide +kernel
theorem dX2_hasTwinBefore_14 : decode cX2_hasTwinBefore 14 = .ok (.getfield 9, 3) := by decide +kernel
theorem dX2_hasTwinBefore_17 : decode cX2_hasTwinBefore 17 = .ok (.iload_n 1, 1) := by decide +kernel
theorem dX2_hasTwinBefore_18 : decode cX2_hasTwinBefore 18 = .ok (.iaload, 1) := by decide +kernel
theorem dX2_hasTwinBefore_19 : decode cX2_hasTwinBefore 19 = .ok (.if_icmp .ne 20, 3) := by decide +kernel
theorem dX2_hasTwinBefore_22 : decode cX2_hasTwinBefore 22 = .ok (.aload_n 0, 1) := by decide +kernel
theorem dX2_hasTwinBefore_23 : decode cX2_hasTwinBefore 23 = .ok (.iload_n 3, 1) := by decide +kernel
theorem dX2_hasTwinBefore_24 : decode cX2_hasTwinBefore 24 = .ok (.iload_n 2, 1) := by decide +kernel
theorem dX2_hasTwinBefore_25 : decode cX2_hasTwinBefore 25 = .ok (.invokevirtual 30, 3) := by decide +kernel
theorem dX2_hasTwinBefore_28 : decode cX2_hasTwinBefore 28 = .ok (.aload_n 0, 1) := by decide +kernel
theorem dX2_hasTwinBefore_29 : decode cX2_hasTwinBefore 29 = .ok (.iload_n 1, 1) := by decide +kernel
theorem dX2_hasTwinBefore_30 : decode cX2_hasTwinBefore 30 = .ok (.iload_n 2, 1) := by decide +kernel
theorem dX2_hasTwinBefore_31 : decode cX2_hasTwinBefore 31 = .ok (.invokevirtual 30, 3) := by decide +kernel
theorem dX2_hasTwinBefore_34 : decode cX2_hasTwinBefore 34 = .ok (.if_icmp .ne 5, 3) := by decide +kernel
theorem dX2_hasTwinBefore_37 : decode cX2_hasTwinBefore 37 = .ok (.iconst 1, 1) := by decide +kernel
theorem dX2_hasTwinBefore_38 : decode cX2_hasTwinBefore 38 = .ok (.ireturn, 1) := by decide +kernel
theorem dX2_hasTwinBefore_39 : decode cX2_hasTwinBefore 39 = .ok (.iinc 3 1, 3) := by decide +kernel
theorem dX2_hasTwinBefore_42 : decode cX2_hasTwinBefore 42 = .ok (.goto (-40), 3) := by decide +kernel
theorem dX2_hasTwinBefore_45 : decode cX2_hasTwinBefore 45 = .ok (.iconst 0, 1) := by decide +kernel
theorem dX2_hasTwinBefore_46 : decode cX2_hasTwinBefore 46 = .ok (.ireturn, 1) := by decide +kernel
theorem dX3_init_0 : decode cX3_init 0 = .ok (.aload_n 0, 1) := by decide +kernel
theorem dX3_init_1 : decode cX3_init 1 = .ok (.invokespecial 1, 3) := by decide +kernel
theorem dX3_init_4 : decode cX3_init 4 = .ok (.aload_n 0, 1) := by decide +kernel
theorem dX3_init_5 : decode cX3_init 5 = .ok (.iload_n 1, 1) := by decide +kernel
theorem dX3_init_6 : decode cX3_init 6 = .ok (.putfield 7, 3) := by decide +kernel
theorem dX3_init_9 : decode cX3_init 9 = .ok (.aload_n 0, 1) := by decide +kernel
theorem dX3_init_10 : decode cX3_init 10 = .ok (.iload_n 2, 1) := by decide +kernel
theorem dX3_init_11 : decode cX3_init 11 = .ok (.putfield 13, 3) := by decide +kernel
theorem dX3_init_14 : decode cX3_init 14 = .ok (.return_, 1) := by decide +kernel
set_option maxRecDepth 20000 in
theorem ggX3_isBroken_X2_hasTwins : GoodIn wsX3_isBroken wsX2_hasTwins := goodIn_r _ [7, 8, 9, 10, 11, 6, 12, 13, 14, 15, 16, 17, 20, 21] (by decide +kernel) (by decide +kernel)
set_option maxRecDepth 20000 in
theorem gX3_isBroken_X2_hasTwins : GoodIn wsX3_isBroken (wsV RX3 16 RX2 yX2_hasTwins wsX2_hasTwins) := goodIn_app (goodIn_of _ (by decide +kernel)) ggX3_isBroken_X2_hasTwins
theorem dX3_isBroken_0 : decode cX3_isBroken 0 = .ok (.aload_n 1, 1) := by decide +kernel
theorem dX3_isBroken_1 : decode cX3_isBroken 1 = .ok (.aload_n 0, 1) := by decide +kernel
theorem dX3_isBroken_2 : decode cX3_isBroken 2 = .ok (.getfield 7, 3) := by decide +kernel
theorem dX3_isBroken_5 : decode cX3_isBroken 5 = .ok (.aload_n 0, 1) := by decide +kernel
theorem dX3_isBroken_6 : decode cX3_isBroken 6 = .ok (.getfield 13, 3) := by decide +kernel
theorem dX3_isBroken_9 : decode cX3_isBroken 9 = .ok (.invokevirtual 16, 3) := by decide +kernel
theorem dX3_isBroken_12 : decode cX3_isBroken 12 = .ok (.ireturn, 1) := by decide +kernel
set_option maxRecDepth 20000 in
theorem ggX4_init_X2_init : GoodIn wsX4_init wsX2_init := goodIn_r _ [30, 31, 2, 3, 4, 32, 33, 34, 35, 36, 37, 54, 55] (by decide +kernel) (by decide +kernel)
set_option maxRecDepth 20000 in
theorem gX4_init_X2_init : GoodIn wsX4_init (wsX2_init) := ggX4_init_X2_init
