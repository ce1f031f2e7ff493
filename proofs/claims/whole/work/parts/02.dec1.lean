theorem dX4_move_0 : decode cX4_move 0 = .ok (.aload_n 0, 1) := by decide +kernel
theorem dX4_move_1 : decode cX4_move 1 = .ok (.getfield 12, 3) := by decide +kernel
theorem dX4_move_4 : decode cX4_move 4 = .ok (.iload_n 1, 1) := by decide +kernel
theorem dX4_move_5 : decode cX4_move 5 = .ok (.invokevirtual 72, 3) := by decide +kernel
theorem dX4_move_8 : decode cX4_move 8 = .ok (.ifCond .ne 5, 3) := by decide +kernel
theorem dX4_move_11 : decode cX4_move 11 = .ok (.iconst (-1), 1) := by decide +kernel
theorem dX4_move_12 : decode cX4_move 12 = .ok (.ireturn, 1) := by decide +kernel
theorem dX4_move_13 : decode cX4_move 13 = .ok (.iload_n 2, 1) := by decide +kernel
theorem dX4_move_14 : decode cX4_move 14 = .ok (.iload_n 3, 1) := by decide +kernel
theorem dX4_move_15 : decode cX4_move 15 = .ok (.invokestatic 56, 3) := by decide +kernel
theorem dX4_move_18 : decode cX4_move 18 = .ok (.ifCond .ne 6, 3) := by decide +kernel
theorem dX4_move_21 : decode cX4_move 21 = .ok (.bipush (-2), 2) := by decide +kernel
theorem dX4_move_23 : decode cX4_move 23 = .ok (.ireturn, 1) := by decide +kernel
theorem dX4_move_24 : decode cX4_move 24 = .ok (.aload_n 0, 1) := by decide +kernel
theorem dX4_move_25 : decode cX4_move 25 = .ok (.getfield 12, 3) := by decide +kernel
theorem dX4_move_28 : decode cX4_move 28 = .ok (.iload_n 2, 1) := by decide +kernel
theorem dX4_move_29 : decode cX4_move 29 = .ok (.iload_n 3, 1) := by decide +kernel
theorem dX4_move_30 : decode cX4_move 30 = .ok (.invokevirtual 59, 3) := by decide +kernel
theorem dX4_move_33 : decode cX4_move 33 = .ok (.istore 4, 2) := by decide +kernel
theorem dX4_move_35 : decode cX4_move 35 = .ok (.iload 4, 2) := by decide +kernel
theorem dX4_move_37 : decode cX4_move 37 = .ok (.iconst (-1), 1) := by decide +kernel
theorem dX4_move_38 : decode cX4_move 38 = .ok (.if_icmp .eq 12, 3) := by decide +kernel
theorem dX4_move_41 : decode cX4_move 41 = .ok (.iload 4, 2) := by decide +kernel
theorem dX4_move_43 : decode cX4_move 43 = .ok (.iload_n 1, 1) := by decide +kernel
theorem dX4_move_44 : decode cX4_move 44 = .ok (.if_icmp .eq 6, 3) := by decide +kernel
theorem dX4_move_47 : decode cX4_move 47 = .ok (.bipush (-5), 2) := by decide +kernel
theorem dX4_move_49 : decode cX4_move 49 = .ok (.ireturn, 1) := by decide +kernel
theorem dX4_move_50 : decode cX4_move 50 = .ok (.aload_n 0, 1) := by decide +kernel
theorem dX4_move_51 : decode cX4_move 51 = .ok (.getfield 12, 3) := by decide +kernel
theorem dX4_move_54 : decode cX4_move 54 = .ok (.iload_n 1, 1) := by decide +kernel
theorem dX4_move_55 : decode cX4_move 55 = .ok (.iload_n 2, 1) := by decide +kernel
theorem dX4_move_56 : decode cX4_move 56 = .ok (.iload_n 3, 1) := by decide +kernel
theorem dX4_move_57 : decode cX4_move 57 = .ok (.invokevirtual 76, 3) := by decide +kernel
theorem dX4_move_60 : decode cX4_move 60 = .ok (.istore 5, 2) := by decide +kernel
theorem dX4_move_62 : decode cX4_move 62 = .ok (.aload_n 0, 1) := by decide +kernel
theorem dX4_move_63 : decode cX4_move 63 = .ok (.getfield 12, 3) := by decide +kernel
theorem dX4_move_66 : decode cX4_move 66 = .ok (.getfield 66, 3) := by decide +kernel
theorem dX4_move_69 : decode cX4_move 69 = .ok (.iload_n 1, 1) := by decide +kernel
theorem dX4_move_70 : decode cX4_move 70 = .ok (.iload_n 2, 1) := by decide +kernel
theorem dX4_move_71 : decode cX4_move 71 = .ok (.iastore, 1) := by decide +kernel
theorem dX4_move_72 : decode cX4_move 72 = .ok (.aload_n 0, 1) := by decide +kernel
theorem dX4_move_73 : decode cX4_move 73 = .ok (.getfield 12, 3) := by decide +kernel
theorem dX4_move_76 : decode cX4_move 76 = .ok (.getfield 69, 3) := by decide +kernel
theorem dX4_move_79 : decode cX4_move 79 = .ok (.iload_n 1, 1) := by decide +kernel
theorem dX4_move_80 : decode cX4_move 80 = .ok (.iload_n 3, 1) := by decide +kernel
theorem dX4_move_81 : decode cX4_move 81 = .ok (.iastore, 1) := by decide +kernel
theorem dX4_move_82 : decode cX4_move 82 = .ok (.aload_n 0, 1) := by decide +kernel
theorem dX4_move_83 : decode cX4_move 83 = .ok (.getfield 27, 3) := by decide +kernel
theorem dX4_move_86 : decode cX4_move 86 = .ok (.invokevirtual 49, 3) := by decide +kernel
theorem dX4_move_89 : decode cX4_move 89 = .ok (.iload 5, 2) := by decide +kernel
theorem dX4_move_91 : decode cX4_move 91 = .ok (.ireturn, 1) := by decide +kernel
set_option maxRecDepth 20000 in
theorem ggX4_reach_X1_knows : GoodIn wsX4_reach wsX1_knows := goodIn_r _ [8, 9, 21, 22, 23, 24, 25, 26, 27, 28] (by decide +kernel) (by decide +kernel)
set_option maxRecDepth 20000 in
theorem gX4_reach_X1_knows : GoodIn wsX4_reach (wsV RX4 72 RX1 yX1_knows wsX1_knows) := goodIn_app (goodIn_of _ (by decide +kernel)) ggX4_reach_X1_knows
set_option maxRecDepth 20000 in
theorem ggX4_reach_X3_letAllGo : GoodIn wsX4_reach wsX3_letAllGo := goodIn_r _ [14, 15, 29, 30, 31, 32, 33, 34, 35] (by decide +kernel) (by decide +kernel)
set_option maxRecDepth 20000 in
theorem gX4_reach_X3_letAllGo : GoodIn wsX4_reach (wsV RX4 49 RX3 yX3_letAllGo wsX3_letAllGo) := goodIn_app (goodIn_of _ (by decide +kernel)) ggX4_reach_X3_letAllGo
theorem dX4_reach_0 : decode cX4_reach 0 = .ok (.aload_n 0, 1) := by decide +kernel
theorem dX4_reach_1 : decode cX4_reach 1 = .ok (.getfield 12, 3) := by decide +kernel
theorem dX4_reach_4 : decode cX4_reach 4 = .ok (.iload_n 1, 1) := by decide +kernel
theorem dX4_reach_5 : decode cX4_reach 5 = .ok (.invokevirtual 72, 3) := by decide +kernel
theorem dX4_reach_8 : decode cX4_reach 8 = .ok (.ifCond .ne 5, 3) := by decide +kernel
theorem dX4_reach_11 : decode cX4_reach 11 = .ok (.iconst (-1), 1) := by decide +kernel
theorem dX4_reach_12 : decode cX4_reach 12 = .ok (.ireturn, 1) := by decide +kernel
theorem dX4_reach_13 : decode cX4_reach 13 = .ok (.iload_n 2, 1) := by decide +kernel
theorem dX4_reach_14 : decode cX4_reach 14 = .ok (.sipush (-400), 3) := by decide +kernel
theorem dX4_reach_17 : decode cX4_reach 17 = .ok (.if_icmp .lt 10, 3) := by decide +kernel
theorem dX4_reach_20 : decode cX4_reach 20 = .ok (.iload_n 2, 1) := by decide +kernel
theorem dX4_reach_21 : decode cX4_reach 21 = .ok (.sipush 400, 3) := by decide +kernel
theorem dX4_reach_24 : decode cX4_reach 24 = .ok (.if_icmp .le 6, 3) := by decide +kernel
theorem dX4_reach_27 : decode cX4_reach 27 = .ok (.bipush (-2), 2) := by decide +kernel
theorem dX4_reach_29 : decode cX4_reach 29 = .ok (.ireturn, 1) := by decide +kernel
theorem dX4_reach_30 : decode cX4_reach 30 = .ok (.aload_n 0, 1) := by decide +kernel
theorem dX4_reach_31 : decode cX4_reach 31 = .ok (.getfield 12, 3) := by decide +kernel
theorem dX4_reach_34 : decode cX4_reach 34 = .ok (.getfield 80, 3) := by decide +kernel
theorem dX4_reach_37 : decode cX4_reach 37 = .ok (.iload_n 1, 1) := by decide +kernel
theorem dX4_reach_38 : decode cX4_reach 38 = .ok (.iaload, 1) := by decide +kernel
theorem dX4_reach_39 : decode cX4_reach 39 = .ok (.istore_n 3, 1) := by decide +kernel
theorem dX4_reach_40 : decode cX4_reach 40 = .ok (.aload_n 0, 1) := by decide +kernel
theorem dX4_reach_41 : decode cX4_reach 41 = .ok (.getfield 12, 3) := by decide +kernel
theorem dX4_reach_44 : decode cX4_reach 44 = .ok (.getfield 80, 3) := by decide +kernel
theorem dX4_reach_47 : decode cX4_reach 47 = .ok (.iload_n 1, 1) := by decide +kernel
theorem dX4_reach_48 : decode cX4_reach 48 = .ok (.iload_n 2, 1) := by decide +kernel
theorem dX4_reach_49 : decode cX4_reach 49 = .ok (.iastore, 1) := by decide +kernel
theorem dX4_reach_50 : decode cX4_reach 50 = .ok (.aload_n 0, 1) := by decide +kernel
theorem dX4_reach_51 : decode cX4_reach 51 = .ok (.getfield 27, 3) := by decide +kernel
theorem dX4_reach_54 : decode cX4_reach 54 = .ok (.invokevirtual 49, 3) := by decide +kernel
theorem dX4_reach_57 : decode cX4_reach 57 = .ok (.iload_n 3, 1) := by decide +kernel
theorem dX4_reach_58 : decode cX4_reach 58 = .ok (.sipush 1000, 3) := by decide +kernel
theorem dX4_reach_61 : decode cX4_reach 61 = .ok (.iadd, 1) := by decide +kernel
theorem dX4_reach_62 : decode cX4_reach 62 = .ok (.ireturn, 1) := by decide +kernel
set_option maxRecDepth 20000 in
theorem ggX4_fail_X1_knows : GoodIn wsX4_fail wsX1_knows := goodIn_r _ [6, 7, 37, 38, 39, 40, 41, 42, 43, 44] (by decide +kernel) (by decide +kernel)
set_option maxRecDepth 20000 in
theorem gX4_fail_X1_knows : GoodIn wsX4_fail (wsV RX4 72 RX1 yX1_knows wsX1_knows) := goodIn_app (goodIn_of _ (by decide +kernel)) ggX4_fail_X1_knows
set_option maxRecDepth 20000 in
theorem ggX4_fail_X4_areDays : GoodIn wsX4_fail wsX4_areDays := goodIn_r _ [11, 12, 13, 10, 14] (by decide +kernel) (by decide +kernel)
set_option maxRecDepth 20000 in
theorem gX4_fail_X4_areDays : GoodIn wsX4_fail (va_wsS RX4 83 yX4_areDays wsX4_areDays) := goodIn_app (goodIn_of _ (by decide +kernel)) ggX4_fail_X4_areDays
set_option maxRecDepth 20000 in
theorem ggX4_fail_X1_putOut : GoodIn wsX4_fail wsX1_putOut := goodIn_r _ [18, 19, 20, 37, 38, 39, 40, 41, 42, 43, 44] (by decide +kernel) (by decide +kernel)
set_option maxRecDepth 20000 in
theorem gX4_fail_X1_putOut : GoodIn wsX4_fail (wsV RX4 86 RX1 yX1_putOut wsX1_putOut) := goodIn_app (goodIn_of _ (by decide +kernel)) ggX4_fail_X1_putOut
set_option maxRecDepth 20000 in
theorem ggX4_fail_X1_daysOut : GoodIn wsX4_fail wsX1_daysOut := goodIn_r _ [24, 19, 25, 26, 27, 28, 29, 30, 31, 37, 38, 39, 40, 41, 42, 43, 44] (by decide +kernel) (by decide +kernel)
set_option maxRecDepth 20000 in
theorem gX4_fail_X1_daysOut : GoodIn wsX4_fail (wsV RX4 90 RX1 yX1_daysOut wsX1_daysOut) := goodIn_app (goodIn_of _ (by decide +kernel)) ggX4_fail_X1_daysOut
theorem dX4_fail_0 : decode cX4_fail 0 = .ok (.aload_n 0, 1) := by decide +kernel
theorem dX4_fail_1 : decode cX4_fail 1 = .ok (.getfield 12, 3) := by decide +kernel
theorem dX4_fail_4 : decode cX4_fail 4 = .ok (.iload_n 1, 1) := by decide +kernel
theorem dX4_fail_5 : decode cX4_fail 5 = .ok (.invokevirtual 72, 3) := by decide +kernel
theorem dX4_fail_8 : decode cX4_fail 8 = .ok (.ifCond .ne 5, 3) := by decide +kernel
theorem dX4_fail_11 : decode cX4_fail 11 = .ok (.iconst (-1), 1) := by decide +kernel
theorem dX4_fail_12 : decode cX4_fail 12 = .ok (.ireturn, 1) := by decide +kernel
theorem dX4_fail_13 : decode cX4_fail 13 = .ok (.iload_n 2, 1) := by decide +kernel
theorem dX4_fail_14 : decode cX4_fail 14 = .ok (.iload_n 3, 1) := by decide +kernel
theorem dX4_fail_15 : decode cX4_fail 15 = .ok (.invokestatic 83, 3) := by decide +kernel
theorem dX4_fail_18 : decode cX4_fail 18 = .ok (.ifCond .eq 14, 3) := by decide +kernel
theorem dX4_fail_21 : decode cX4_fail 21 = .ok (.iload 4, 2) := by decide +kernel
theorem dX4_fail_23 : decode cX4_fail 23 = .ok (.ifCond .eq 12, 3) := by decide +kernel
theorem dX4_fail_26 : decode cX4_fail 26 = .ok (.iload 4, 2) := by decide +kernel
theorem dX4_fail_28 : decode cX4_fail 28 = .ok (.iconst 1, 1) := by decide +kernel
theorem dX4_fail_29 : decode cX4_fail 29 = .ok (.if_icmp .eq 6, 3) := by decide +kernel
theorem dX4_fail_32 : decode cX4_fail 32 = .ok (.bipush (-2), 2) := by decide +kernel
theorem dX4_fail_34 : decode cX4_fail 34 = .ok (.ireturn, 1) := by decide +kernel
theorem dX4_fail_35 : decode cX4_fail 35 = .ok (.iload_n 2, 1) := by decide +kernel
theorem dX4_fail_36 : decode cX4_fail 36 = .ok (.istore 5, 2) := by decide +kernel
theorem dX4_fail_38 : decode cX4_fail 38 = .ok (.iload 5, 2) := by decide +kernel
theorem dX4_fail_40 : decode cX4_fail 40 = .ok (.iload_n 3, 1) := by decide +kernel
theorem dX4_fail_41 : decode cX4_fail 41 = .ok (.if_icmp .gt 30, 3) := by decide +kernel
theorem dX4_fail_44 : decode cX4_fail 44 = .ok (.aload_n 0, 1) := by decide +kernel
theorem dX4_fail_45 : decode cX4_fail 45 = .ok (.getfield 12, 3) := by decide +kernel
theorem dX4_fail_48 : decode cX4_fail 48 = .ok (.iload_n 1, 1) := by decide +kernel
theorem dX4_fail_49 : decode cX4_fail 49 = .ok (.iload 5, 2) := by decide +kernel
theorem dX4_fail_51 : decode cX4_fail 51 = .ok (.iload 4, 2) := by decide +kernel
theorem dX4_fail_53 : decode cX4_fail 53 = .ok (.iconst 1, 1) := by decide +kernel
theorem dX4_fail_54 : decode cX4_fail 54 = .ok (.if_icmp .ne 7, 3) := by decide +kernel
theorem dX4_fail_57 : decode cX4_fail 57 = .ok (.iconst 1, 1) := by decide +kernel
theorem dX4_fail_58 : decode cX4_fail 58 = .ok (.goto 4, 3) := by decide +kernel
theorem dX4_fail_61 : decode cX4_fail 61 = .ok (.iconst 0, 1) := by decide +kernel
theorem dX4_fail_62 : decode cX4_fail 62 = .ok (.invokevirtual 86, 3) := by decide +kernel
theorem dX4_fail_65 : decode cX4_fail 65 = .ok (.iinc 5 1, 3) := by decide +kernel
theorem dX4_fail_68 : decode cX4_fail 68 = .ok (.goto (-30), 3) := by decide +kernel
theorem dX4_fail_71 : decode cX4_fail 71 = .ok (.aload_n 0, 1) := by decide +kernel
theorem dX4_fail_72 : decode cX4_fail 72 = .ok (.getfield 12, 3) := by decide +kernel
theorem dX4_fail_75 : decode cX4_fail 75 = .ok (.iload_n 1, 1) := by decide +kernel
theorem dX4_fail_76 : decode cX4_fail 76 = .ok (.invokevirtual 90, 3) := by decide +kernel
theorem dX4_fail_79 : decode cX4_fail 79 = .ok (.ireturn, 1) := by decide +kernel
set_option maxRecDepth 20000 in
theorem ggX4_rain_X1_knows : GoodIn wsX4_rain wsX1_knows := goodIn_r _ [6, 7, 26, 27, 28, 29, 30, 31, 32, 33] (by decide +kernel) (by decide +kernel)
set_option maxRecDepth 20000 in
theorem gX4_rain_X1_knows : GoodIn wsX4_rain (wsV RX4 72 RX1 yX1_knows wsX1_knows) := goodIn_app (goodIn_of _ (by decide +kernel)) ggX4_rain_X1_knows
set_option maxRecDepth 20000 in
theorem ggX4_rain_X4_isDay : GoodIn wsX4_rain wsX4_isDay := goodIn_r _ [11] (by decide +kernel) (by decide +kernel)
set_option maxRecDepth 20000 in
theorem gX4_rain_X4_isDay : GoodIn wsX4_rain (va_wsS RX4 94 yX4_isDay wsX4_isDay) := goodIn_app (goodIn_of _ (by decide +kernel)) ggX4_rain_X4_isDay
set_option maxRecDepth 20000 in
theorem ggX4_rain_X1_readingOf : GoodIn wsX4_rain wsX1_readingOf := goodIn_r _ [15, 16, 26, 27, 28, 29, 30, 31, 32, 33] (by decide +kernel) (by decide +kernel)
set_option maxRecDepth 20000 in
theorem gX4_rain_X1_readingOf : GoodIn wsX4_rain (wsV RX4 97 RX1 yX1_readingOf wsX1_readingOf) := goodIn_app (goodIn_of _ (by decide +kernel)) ggX4_rain_X1_readingOf
set_option maxRecDepth 20000 in
theorem ggX4_rain_X1_putReading : GoodIn wsX4_rain wsX1_putReading := goodIn_r _ [20, 16, 26, 27, 28, 29, 30, 31, 32, 33] (by decide +kernel) (by decide +kernel)
set_option maxRecDepth 20000 in
theorem gX4_rain_X1_putReading : GoodIn wsX4_rain (wsV RX4 100 RX1 yX1_putReading wsX1_putReading) := goodIn_app (goodIn_of _ (by decide +kernel)) ggX4_rain_X1_putReading
theorem dX4_rain_0 : decode cX4_rain 0 = .ok (.aload_n 0, 1) := by decide +kernel
theorem dX4_rain_1 : decode cX4_rain 1 = .ok (.getfield 12, 3) := by decide +kernel
theorem dX4_rain_4 : decode cX4_rain 4 = .ok (.iload_n 1, 1) := by decide +kernel
theorem dX4_rain_5 : decode cX4_rain 5 = .ok (.invokevirtual 72, 3) := by decide +kernel
theorem dX4_rain_8 : decode cX4_rain 8 = .ok (.ifCond .ne 5, 3) := by decide +kernel
theorem dX4_rain_11 : decode cX4_rain 11 = .ok (.iconst (-1), 1) := by decide +kernel
theorem dX4_rain_12 : decode cX4_rain 12 = .ok (.ireturn, 1) := by decide +kernel
theorem dX4_rain_13 : decode cX4_rain 13 = .ok (.iload_n 2, 1) := by decide +kernel
theorem dX4_rain_14 : decode cX4_rain 14 = .ok (.invokestatic 94, 3) := by decide +kernel
theorem dX4_rain_17 : decode cX4_rain 17 = .ok (.ifCond .eq 20, 3) := by decide +kernel
theorem dX4_rain_20 : decode cX4_rain 20 = .ok (.iload_n 3, 1) := by decide +kernel
theorem dX4_rain_21 : decode cX4_rain 21 = .ok (.bipush (-6), 2) := by decide +kernel
theorem dX4_rain_23 : decode cX4_rain 23 = .ok (.if_icmp .eq 17, 3) := by decide +kernel
theorem dX4_rain_26 : decode cX4_rain 26 = .ok (.iload_n 3, 1) := by decide +kernel
theorem dX4_rain_27 : decode cX4_rain 27 = .ok (.ifCond .lt 10, 3) := by decide +kernel
theorem dX4_rain_30 : decode cX4_rain 30 = .ok (.iload_n 3, 1) := by decide +kernel
theorem dX4_rain_31 : decode cX4_rain 31 = .ok (.sipush 9999, 3) := by decide +kernel
theorem dX4_rain_34 : decode cX4_rain 34 = .ok (.if_icmp .le 6, 3) := by decide +kernel
theorem dX4_rain_37 : decode cX4_rain 37 = .ok (.bipush (-2), 2) := by decide +kernel
theorem dX4_rain_39 : decode cX4_rain 39 = .ok (.ireturn, 1) := by decide +kernel
theorem dX4_rain_40 : decode cX4_rain 40 = .ok (.aload_n 0, 1) := by decide +kernel
theorem dX4_rain_41 : decode cX4_rain 41 = .ok (.getfield 12, 3) := by decide +kernel
theorem dX4_rain_44 : decode cX4_rain 44 = .ok (.iload_n 1, 1) := by decide +kernel
theorem dX4_rain_45 : decode cX4_rain 45 = .ok (.iload_n 2, 1) := by decide +kernel
theorem dX4_rain_46 : decode cX4_rain 46 = .ok (.invokevirtual 97, 3) := by decide +kernel
theorem dX4_rain_49 : decode cX4_rain 49 = .ok (.istore 4, 2) := by decide +kernel
theorem dX4_rain_51 : decode cX4_rain 51 = .ok (.aload_n 0, 1) := by decide +kernel
theorem dX4_rain_52 : decode cX4_rain 52 = .ok (.getfield 12, 3) := by decide +kernel
theorem dX4_rain_55 : decode cX4_rain 55 = .ok (.iload_n 1, 1) := by decide +kernel
theorem dX4_rain_56 : decode cX4_rain 56 = .ok (.iload_n 2, 1) := by decide +kernel
theorem dX4_rain_57 : decode cX4_rain 57 = .ok (.iload_n 3, 1) := by decide +kernel
theorem dX4_rain_58 : decode cX4_rain 58 = .ok (.invokevirtual 100, 3) := by decide +kernel
theorem dX4_rain_61 : decode cX4_rain 61 = .ok (.iload 4, 2) := by decide +kernel
theorem dX4_rain_63 : decode cX4_rain 63 = .ok (.ireturn, 1) := by decide +kernel
set_option maxRecDepth 20000 in
theorem ggX4_of_X1_knows : GoodIn wsX4_of wsX1_knows := goodIn_r _ [9, 10, 37, 38, 39, 40, 41, 42, 43, 44] (by decide +kernel) (by decide +kernel)
set_option maxRecDepth 20000 in
theorem gX4_of_X1_knows : GoodIn wsX4_of (wsV RX4 72 RX1 yX1_knows wsX1_knows) := goodIn_app (goodIn_of _ (by decide +kernel)) ggX4_of_X1_knows
set_option maxRecDepth 20000 in
theorem ggX4_of_X1_daysOut : GoodIn wsX4_of wsX1_daysOut := goodIn_r _ [14, 15, 16, 17, 18, 19, 20, 21, 22, 37, 38, 39, 40, 41, 42, 43, 44] (by decide +kernel) (by decide +kernel)
set_option maxRecDepth 20000 in
theorem gX4_of_X1_daysOut : GoodIn wsX4_of (wsV RX4 90 RX1 yX1_daysOut wsX1_daysOut) := goodIn_app (goodIn_of _ (by decide +kernel)) ggX4_of_X1_daysOut
set_option maxRecDepth 20000 in
theorem ggX4_of_X1_daysRead : GoodIn wsX4_of wsX1_daysRead := goodIn_r _ [26, 27, 28, 29, 8, 30, 31, 37, 38, 39, 40, 41, 42, 43, 44] (by decide +kernel) (by decide +kernel)
set_option maxRecDepth 20000 in
theorem gX4_of_X1_daysRead : GoodIn wsX4_of (wsV RX4 104 RX1 yX1_daysRead wsX1_daysRead) := goodIn_app (goodIn_of _ (by decide +kernel)) ggX4_of_X1_daysRead
theorem dX4_of_0 : decode cX4_of 0 = .ok (.aload_n 0, 1) := by decide +kernel
theorem dX4_of_1 : decode cX4_of 1 = .ok (.getfield 12, 3) := by decide +kernel
theorem dX4_of_4 : decode cX4_of 4 = .ok (.iload_n 1, 1) := by decide +kernel
theorem dX4_of_5 : decode cX4_of 5 = .ok (.invokevirtual 72, 3) := by decide +kernel
theorem dX4_of_8 : decode cX4_of 8 = .ok (.ifCond .ne 5, 3) := by decide +kernel
theorem dX4_of_11 : decode cX4_of 11 = .ok (.iconst (-1), 1) := by decide +kernel
theorem dX4_of_12 : decode cX4_of 12 = .ok (.ireturn, 1) := by decide +kernel
theorem dX4_of_13 : decode cX4_of 13 = .ok (.iload_n 2, 1) := by decide +kernel
theorem dX4_of_14 : decode cX4_of 14 = .ok (.tableswitch 94 0 4 #[34, 48, 62, 76, 85], 34) := by decide +kernel
theorem dX4_of_48 : decode cX4_of 48 = .ok (.aload_n 0, 1) := by decide +kernel
theorem dX4_of_49 : decode cX4_of 49 = .ok (.getfield 12, 3) := by decide +kernel
theorem dX4_of_52 : decode cX4_of 52 = .ok (.getfield 66, 3) := by decide +kernel
theorem dX4_of_55 : decode cX4_of 55 = .ok (.iload_n 1, 1) := by decide +kernel
theorem dX4_of_56 : decode cX4_of 56 = .ok (.iaload, 1) := by decide +kernel
theorem dX4_of_57 : decode cX4_of 57 = .ok (.sipush 1000, 3) := by decide +kernel
theorem dX4_of_60 : decode cX4_of 60 = .ok (.iadd, 1) := by decide +kernel
theorem dX4_of_61 : decode cX4_of 61 = .ok (.ireturn, 1) := by decide +kernel
theorem dX4_of_62 : decode cX4_of 62 = .ok (.aload_n 0, 1) := by decide +kernel
theorem dX4_of_63 : decode cX4_of 63 = .ok (.getfield 12, 3) := by decide +kernel
theorem dX4_of_66 : decode cX4_of 66 = .ok (.getfield 69, 3) := by decide +kernel
theorem dX4_of_69 : decode cX4_of 69 = .ok (.iload_n 1, 1) := by decide +kernel
theorem dX4_of_70 : decode cX4_of 70 = .ok (.iaload, 1) := by decide +kernel
theorem dX4_of_71 : decode cX4_of 71 = .ok (.sipush 1000, 3) := by decide +kernel
theorem dX4_of_74 : decode cX4_of 74 = .ok (.iadd, 1) := by decide +kernel
theorem dX4_of_75 : decode cX4_of 75 = .ok (.ireturn, 1) := by decide +kernel
theorem dX4_of_76 : decode cX4_of 76 = .ok (.aload_n 0, 1) := by decide +kernel
theorem dX4_of_77 : decode cX4_of 77 = .ok (.getfield 12, 3) := by decide +kernel
theorem dX4_of_80 : decode cX4_of 80 = .ok (.getfield 80, 3) := by decide +kernel
theorem dX4_of_83 : decode cX4_of 83 = .ok (.iload_n 1, 1) := by decide +kernel
theorem dX4_of_84 : decode cX4_of 84 = .ok (.iaload, 1) := by decide +kernel
theorem dX4_of_85 : decode cX4_of 85 = .ok (.sipush 1000, 3) := by decide +kernel
theorem dX4_of_88 : decode cX4_of 88 = .ok (.iadd, 1) := by decide +kernel
theorem dX4_of_89 : decode cX4_of 89 = .ok (.ireturn, 1) := by decide +kernel
theorem dX4_of_90 : decode cX4_of 90 = .ok (.aload_n 0, 1) := by decide +kernel
theorem dX4_of_91 : decode cX4_of 91 = .ok (.getfield 12, 3) := by decide +kernel
theorem dX4_of_94 : decode cX4_of 94 = .ok (.iload_n 1, 1) := by decide +kernel
theorem dX4_of_95 : decode cX4_of 95 = .ok (.invokevirtual 90, 3) := by decide +kernel
theorem dX4_of_98 : decode cX4_of 98 = .ok (.ireturn, 1) := by decide +kernel
theorem dX4_of_99 : decode cX4_of 99 = .ok (.aload_n 0, 1) := by decide +kernel
theorem dX4_of_100 : decode cX4_of 100 = .ok (.getfield 12, 3) := by decide +kernel
theorem dX4_of_103 : decode cX4_of 103 = .ok (.iload_n 1, 1) := by decide +kernel
theorem dX4_of_104 : decode cX4_of 104 = .ok (.invokevirtual 104, 3) := by decide +kernel
theorem dX4_of_107 : decode cX4_of 107 = .ok (.ireturn, 1) := by decide +kernel
theorem dX4_of_108 : decode cX4_of 108 = .ok (.bipush (-2), 2) := by decide +kernel
theorem dX4_of_110 : decode cX4_of 110 = .ok (.ireturn, 1) := by decide +kernel
set_option maxRecDepth 20000 in
theorem ggX4_reading_X1_knows : GoodIn wsX4_reading wsX1_knows := goodIn_r _ [6, 7, 22, 23, 24, 25, 26, 27, 28, 29] (by decide +kernel) (by decide +kernel)
set_option maxRecDepth 20000 in
theorem gX4_reading_X1_knows : GoodIn wsX4_reading (wsV RX4 72 RX1 yX1_knows wsX1_knows) := goodIn_app (goodIn_of _ (by decide +kernel)) ggX4_reading_X1_knows
set_option maxRecDepth 20000 in
theorem ggX4_reading_X4_isDay : GoodIn wsX4_reading wsX4_isDay := goodIn_r _ [11] (by decide +kernel) (by decide +kernel)
set_option maxRecDepth 20000 in
theorem gX4_reading_X4_isDay : GoodIn wsX4_reading (va_wsS RX4 94 yX4_isDay wsX4_isDay) := goodIn_app (goodIn_of _ (by decide +kernel)) ggX4_reading_X4_isDay
set_option maxRecDepth 20000 in
theorem ggX4_reading_X1_readingOf : GoodIn wsX4_reading wsX1_readingOf := goodIn_r _ [15, 16, 22, 23, 24, 25, 26, 27, 28, 29] (by decide +kernel) (by decide +kernel)
set_option maxRecDepth 20000 in
theorem gX4_reading_X1_readingOf : GoodIn wsX4_reading (wsV RX4 97 RX1 yX1_readingOf wsX1_readingOf) := goodIn_app (goodIn_of _ (by decide +kernel)) ggX4_reading_X1_readingOf
theorem dX4_reading_0 : decode cX4_reading 0 = .ok (.aload_n 0, 1) := by decide +kernel
theorem dX4_reading_1 : decode cX4_reading 1 = .ok (.getfield 12, 3) := by decide +kernel
theorem dX4_reading_4 : decode cX4_reading 4 = .ok (.iload_n 1, 1) := by decide +kernel
theorem dX4_reading_5 : decode cX4_reading 5 = .ok (.invokevirtual 72, 3) := by decide +kernel
theorem dX4_reading_8 : decode cX4_reading 8 = .ok (.ifCond .ne 5, 3) := by decide +kernel
theorem dX4_reading_11 : decode cX4_reading 11 = .ok (.iconst (-1), 1) := by decide +kernel
theorem dX4_reading_12 : decode cX4_reading 12 = .ok (.ireturn, 1) := by decide +kernel
theorem dX4_reading_13 : decode cX4_reading 13 = .ok (.iload_n 2, 1) := by decide +kernel
theorem dX4_reading_14 : decode cX4_reading 14 = .ok (.invokestatic 94, 3) := by decide +kernel
theorem dX4_reading_17 : decode cX4_reading 17 = .ok (.ifCond .ne 6, 3) := by decide +kernel
theorem dX4_reading_20 : decode cX4_reading 20 = .ok (.bipush (-2), 2) := by decide +kernel
theorem dX4_reading_22 : decode cX4_reading 22 = .ok (.ireturn, 1) := by decide +kernel
theorem dX4_reading_23 : decode cX4_reading 23 = .ok (.aload_n 0, 1) := by decide +kernel
theorem dX4_reading_24 : decode cX4_reading 24 = .ok (.getfield 12, 3) := by decide +kernel
theorem dX4_reading_27 : decode cX4_reading 27 = .ok (.iload_n 1, 1) := by decide +kernel
theorem dX4_reading_28 : decode cX4_reading 28 = .ok (.iload_n 2, 1) := by decide +kernel
theorem dX4_reading_29 : decode cX4_reading 29 = .ok (.invokevirtual 97, 3) := by decide +kernel
theorem dX4_reading_32 : decode cX4_reading 32 = .ok (.ireturn, 1) := by decide +kernel
set_option maxRecDepth 20000 in
theorem ggX4_working_X4_isDay : GoodIn wsX4_working wsX4_isDay := goodIn_r _ [5] (by decide +kernel) (by decide +kernel)
set_option maxRecDepth 20000 in
theorem gX4_working_X4_isDay : GoodIn wsX4_working (va_wsS RX4 94 yX4_isDay wsX4_isDay) := goodIn_app (goodIn_of _ (by decide +kernel)) ggX4_working_X4_isDay
set_option maxRecDepth 20000 in
theorem ggX4_working_X1_workingOn : GoodIn wsX4_working wsX1_workingOn := goodIn_r _ [10, 11, 12, 13, 14, 15, 9, 16, 17, 18, 4, 19, 25, 26, 27, 28, 29, 30, 31, 32] (by decide +kernel) (by decide +kernel)
set_option maxRecDepth 20000 in
theorem gX4_working_X1_workingOn : GoodIn wsX4_working (wsV RX4 107 RX1 yX1_workingOn wsX1_workingOn) := goodIn_app (goodIn_of _ (by decide +kernel)) ggX4_working_X1_workingOn
theorem dX4_working_0 : decode cX4_working 0 = .ok (.iload_n 1, 1) := by decide +kernel
theorem dX4_working_1 : decode cX4_working 1 = .ok (.invokestatic 94, 3) := by decide +kernel
theorem dX4_working_4 : decode cX4_working 4 = .ok (.ifCond .ne 6, 3) := by decide +kernel
theorem dX4_working_7 : decode cX4_working 7 = .ok (.bipush (-2), 2) := by decide +kernel
theorem dX4_working_9 : decode cX4_working 9 = .ok (.ireturn, 1) := by decide +kernel
theorem dX4_working_10 : decode cX4_working 10 = .ok (.aload_n 0, 1) := by decide +kernel
theorem dX4_working_11 : decode cX4_working 11 = .ok (.getfield 12, 3) := by decide +kernel
theorem dX4_working_14 : decode cX4_working 14 = .ok (.iload_n 1, 1) := by decide +kernel
theorem dX4_working_15 : decode cX4_working 15 = .ok (.invokevirtual 107, 3) := by decide +kernel
theorem dX4_working_18 : decode cX4_working 18 = .ok (.ireturn, 1) := by decide +kernel
set_option maxRecDepth 20000 in
theorem ggX4_owner_X4_isDay : GoodIn wsX4_owner wsX4_isDay := goodIn_r _ [6] (by decide +kernel) (by decide +kernel)
set_option maxRecDepth 20000 in
theorem gX4_owner_X4_isDay : GoodIn wsX4_owner (va_wsS RX4 94 yX4_isDay wsX4_isDay) := goodIn_app (goodIn_of _ (by decide +kernel)) ggX4_owner_X4_isDay
set_option maxRecDepth 20000 in
theorem ggX4_owner_X4_isPlot : GoodIn wsX4_owner wsX4_isPlot := goodIn_r _ [9] (by decide +kernel) (by decide +kernel)
set_option maxRecDepth 20000 in
theorem gX4_owner_X4_isPlot : GoodIn wsX4_owner (va_wsS RX4 38 yX4_isPlot wsX4_isPlot) := goodIn_app (goodIn_of _ (by decide +kernel)) ggX4_owner_X4_isPlot
set_option maxRecDepth 20000 in
theorem ggX4_owner_X1_hasPlot : GoodIn wsX4_owner wsX1_hasPlot := goodIn_r _ [14, 15, 16, 81, 82, 83, 84, 85, 86, 87, 88] (by decide +kernel) (by decide +kernel)
set_option maxRecDepth 20000 in
theorem gX4_owner_X1_hasPlot : GoodIn wsX4_owner (wsV RX4 110 RX1 yX1_hasPlot wsX1_hasPlot) := goodIn_app (goodIn_of _ (by decide +kernel)) ggX4_owner_X1_hasPlot
set_option maxRecDepth 20000 in
theorem ggX4_owner_X1_workingOn : GoodIn wsX4_owner wsX1_workingOn := goodIn_r _ [20, 21, 22, 23, 24, 25, 13, 26, 27, 28, 5, 29, 81, 82, 83, 84, 85, 86, 87, 88] (by decide +kernel) (by decide +kernel)
set_option maxRecDepth 20000 in
theorem gX4_owner_X1_workingOn : GoodIn wsX4_owner (wsV RX4 107 RX1 yX1_workingOn wsX1_workingOn) := goodIn_app (goodIn_of _ (by decide +kernel)) ggX4_owner_X1_workingOn
set_option maxRecDepth 20000 in
theorem ggX4_owner_X3_lookUp : GoodIn wsX4_owner wsX3_lookUp := goodIn_r _ [34, 35, 36, 37, 38, 39, 40, 41, 42, 43, 33, 44, 45, 46, 47, 48, 49, 50, 51, 52, 53, 54, 55, 56, 57, 58, 59, 60, 61, 62, 5, 63, 64, 65, 66, 67, 68, 69, 70, 71, 89, 90, 91, 92, 93, 94, 95, 96, 97, 98, 99, 81, 82, 83, 84, 85, 86, 87, 88] (by decide +kernel) (by decide +kernel)
set_option maxRecDepth 20000 in
theorem gX4_owner_X3_lookUp : GoodIn wsX4_owner (wsV RX4 113 RX3 yX3_lookUp wsX3_lookUp) := goodIn_app (goodIn_of _ (by decide +kernel)) ggX4_owner_X3_lookUp
set_option maxRecDepth 20000 in
theorem ggX4_owner_X0_ownerAt : GoodIn wsX4_owner wsX0_ownerAt := goodIn_r _ [75, 56, 8, 5, 9, 96, 97, 98, 99] (by decide +kernel) (by decide +kernel)
set_option maxRecDepth 20000 in
theorem gX4_owner_X0_ownerAt : GoodIn wsX4_owner (wsV RX4 117 RX0 yX0_ownerAt wsX0_ownerAt) := goodIn_app (goodIn_of _ (by decide +kernel)) ggX4_owner_X0_ownerAt
theorem dX4_owner_0 : decode cX4_owner 0 = .ok (.iload_n 1, 1) := by decide +kernel
theorem dX4_owner_1 : decode cX4_owner 1 = .ok (.invokestatic 94, 3) := by decide +kernel
theorem dX4_owner_4 : decode cX4_owner 4 = .ok (.ifCond .eq 11, 3) := by decide +kernel
theorem dX4_owner_7 : decode cX4_owner 7 = .ok (.iload_n 2, 1) := by decide +kernel
theorem dX4_owner_8 : decode cX4_owner 8 = .ok (.iload_n 3, 1) := by decide +kernel
theorem dX4_owner_9 : decode cX4_owner 9 = .ok (.invokestatic 38, 3) := by decide +kernel
theorem dX4_owner_12 : decode cX4_owner 12 = .ok (.ifCond .ne 6, 3) := by decide +kernel
theorem dX4_owner_15 : decode cX4_owner 15 = .ok (.bipush (-2), 2) := by decide +kernel
theorem dX4_owner_17 : decode cX4_owner 17 = .ok (.ireturn, 1) := by decide +kernel
theorem dX4_owner_18 : decode cX4_owner 18 = .ok (.aload_n 0, 1) := by decide +kernel
theorem dX4_owner_19 : decode cX4_owner 19 = .ok (.getfield 12, 3) := by decide +kernel
theorem dX4_owner_22 : decode cX4_owner 22 = .ok (.iload_n 2, 1) := by decide +kernel
theorem dX4_owner_23 : decode cX4_owner 23 = .ok (.iload_n 3, 1) := by decide +kernel
theorem dX4_owner_24 : decode cX4_owner 24 = .ok (.invokevirtual 110, 3) := by decide +kernel
theorem dX4_owner_27 : decode cX4_owner 27 = .ok (.ifCond .ne 6, 3) := by decide +kernel
theorem dX4_owner_30 : decode cX4_owner 30 = .ok (.bipush (-5), 2) := by decide +kernel
theorem dX4_owner_32 : decode cX4_owner 32 = .ok (.ireturn, 1) := by decide +kernel
theorem dX4_owner_33 : decode cX4_owner 33 = .ok (.aload_n 0, 1) := by decide +kernel
theorem dX4_owner_34 : decode cX4_owner 34 = .ok (.getfield 12, 3) := by decide +kernel
theorem dX4_owner_37 : decode cX4_owner 37 = .ok (.iload_n 1, 1) := by decide +kernel
theorem dX4_owner_38 : decode cX4_owner 38 = .ok (.invokevirtual 107, 3) := by decide +kernel
theorem dX4_owner_41 : decode cX4_owner 41 = .ok (.istore 4, 2) := by decide +kernel
theorem dX4_owner_43 : decode cX4_owner 43 = .ok (.iload 4, 2) := by decide +kernel
theorem dX4_owner_45 : decode cX4_owner 45 = .ok (.ifCond .ne 6, 3) := by decide +kernel
theorem dX4_owner_48 : decode cX4_owner 48 = .ok (.bipush (-6), 2) := by decide +kernel
theorem dX4_owner_50 : decode cX4_owner 50 = .ok (.ireturn, 1) := by decide +kernel
theorem dX4_owner_51 : decode cX4_owner 51 = .ok (.aload_n 0, 1) := by decide +kernel
theorem dX4_owner_52 : decode cX4_owner 52 = .ok (.getfield 27, 3) := by decide +kernel
theorem dX4_owner_55 : decode cX4_owner 55 = .ok (.aload_n 0, 1) := by decide +kernel
theorem dX4_owner_56 : decode cX4_owner 56 = .ok (.getfield 12, 3) := by decide +kernel
theorem dX4_owner_59 : decode cX4_owner 59 = .ok (.iload 4, 2) := by decide +kernel
theorem dX4_owner_61 : decode cX4_owner 61 = .ok (.invokevirtual 113, 3) := by decide +kernel
theorem dX4_owner_64 : decode cX4_owner 64 = .ok (.iload_n 2, 1) := by decide +kernel
theorem dX4_owner_65 : decode cX4_owner 65 = .ok (.iload_n 3, 1) := by decide +kernel
theorem dX4_owner_66 : decode cX4_owner 66 = .ok (.invokevirtual 117, 3) := by decide +kernel
theorem dX4_owner_69 : decode cX4_owner 69 = .ok (.ireturn, 1) := by decide +kernel
set_option maxRecDepth 20000 in
theorem ggX4_cell_X1_knows : GoodIn wsX4_cell wsX1_knows := goodIn_r _ [8, 9, 102, 103, 104, 105, 106, 107, 108, 109] (by decide +kernel) (by decide +kernel)
set_option maxRecDepth 20000 in
theorem gX4_cell_X1_knows : GoodIn wsX4_cell (wsV RX4 72 RX1 yX1_knows wsX1_knows) := goodIn_app (goodIn_of _ (by decide +kernel)) ggX4_cell_X1_knows
set_option maxRecDepth 20000 in
theorem ggX4_cell_X4_isDay : GoodIn wsX4_cell wsX4_isDay := goodIn_r _ [13] (by decide +kernel) (by decide +kernel)
set_option maxRecDepth 20000 in
theorem gX4_cell_X4_isDay : GoodIn wsX4_cell (va_wsS RX4 94 yX4_isDay wsX4_isDay) := goodIn_app (goodIn_of _ (by decide +kernel)) ggX4_cell_X4_isDay
set_option maxRecDepth 20000 in
theorem ggX4_cell_X4_cellsOn : GoodIn wsX4_cell wsX4_cellsOn := goodIn_r _ [17, 1, 18, 19, 20, 21, 22, 7, 23, 9, 24, 25, 26, 27, 28, 29, 30, 12, 31, 32, 33, 34, 35, 36, 37, 38, 39, 40, 41, 42, 43, 44, 45, 46, 47, 48, 49, 50, 51, 52, 53, 54, 55, 56, 57, 58, 59, 60, 61, 62, 63, 64, 65, 66, 67, 68, 69, 70, 71, 72, 73, 93, 94, 95, 96, 97, 110, 111, 112, 113, 114, 115, 116, 102, 103, 104, 105, 106, 107, 108, 109, 98, 99, 100, 101] (by decide +kernel) (by decide +kernel)
set_option maxRecDepth 20000 in
theorem gX4_cell_X4_cellsOn : GoodIn wsX4_cell (wsV RX4 122 RX4 yX4_cellsOn wsX4_cellsOn) := goodIn_app (goodIn_of _ (by decide +kernel)) ggX4_cell_X4_cellsOn
set_option maxRecDepth 20000 in
theorem ggX4_cell_X1_plotCount : GoodIn wsX4_cell wsX1_plotCount := goodIn_r _ [77, 78, 79, 80, 81, 82, 7, 83, 102, 103, 104, 105, 106, 107, 108, 109] (by decide +kernel) (by decide +kernel)
set_option maxRecDepth 20000 in
theorem gX4_cell_X1_plotCount : GoodIn wsX4_cell (wsV RX4 52 RX1 yX1_plotCount wsX1_plotCount) := goodIn_app (goodIn_of _ (by decide +kernel)) ggX4_cell_X1_plotCount
set_option maxRecDepth 20000 in
theorem ggX4_cell_X4_upper : GoodIn wsX4_cell wsX4_upper := goodIn_r _ [86, 87, 88, 12, 89] (by decide +kernel) (by decide +kernel)
set_option maxRecDepth 20000 in
theorem gX4_cell_X4_upper : GoodIn wsX4_cell (va_wsS RX4 129 yX4_upper wsX4_upper) := goodIn_app (goodIn_of _ (by decide +kernel)) ggX4_cell_X4_upper
set_option maxRecDepth 20000 in
theorem ggX4_cell_X4_lower : GoodIn wsX4_cell wsX4_lower := goodIn_r _ [92, 87, 88, 12, 89] (by decide +kernel) (by decide +kernel)
set_option maxRecDepth 20000 in
theorem gX4_cell_X4_lower : GoodIn wsX4_cell (va_wsS RX4 132 yX4_lower wsX4_lower) := goodIn_app (goodIn_of _ (by decide +kernel)) ggX4_cell_X4_lower
theorem dX4_cell_0 : decode cX4_cell 0 = .ok (.aload_n 0, 1) := by decide +kernel
theorem dX4_cell_1 : decode cX4_cell 1 = .ok (.getfield 12, 3) := by decide +kernel
theorem dX4_cell_4 : decode cX4_cell 4 = .ok (.iload_n 2, 1) := by decide +kernel
theorem dX4_cell_5 : decode cX4_cell 5 = .ok (.invokevirtual 72, 3) := by decide +kernel
theorem dX4_cell_8 : decode cX4_cell 8 = .ok (.ifCond .ne 5, 3) := by decide +kernel
theorem dX4_cell_11 : decode cX4_cell 11 = .ok (.iconst (-1), 1) := by decide +kernel
theorem dX4_cell_12 : decode cX4_cell 12 = .ok (.ireturn, 1) := by decide +kernel
theorem dX4_cell_13 : decode cX4_cell 13 = .ok (.iload_n 1, 1) := by decide +kernel
theorem dX4_cell_14 : decode cX4_cell 14 = .ok (.invokestatic 94, 3) := by decide +kernel
theorem dX4_cell_17 : decode cX4_cell 17 = .ok (.ifCond .eq 12, 3) := by decide +kernel
theorem dX4_cell_20 : decode cX4_cell 20 = .ok (.iload_n 3, 1) := by decide +kernel
theorem dX4_cell_21 : decode cX4_cell 21 = .ok (.ifCond .lt 8, 3) := by decide +kernel
theorem dX4_cell_24 : decode cX4_cell 24 = .ok (.iload_n 3, 1) := by decide +kernel
theorem dX4_cell_25 : decode cX4_cell 25 = .ok (.iconst 3, 1) := by decide +kernel
theorem dX4_cell_26 : decode cX4_cell 26 = .ok (.if_icmp .le 6, 3) := by decide +kernel
theorem dX4_cell_29 : decode cX4_cell 29 = .ok (.bipush (-2), 2) := by decide +kernel
theorem dX4_cell_31 : decode cX4_cell 31 = .ok (.ireturn, 1) := by decide +kernel
theorem dX4_cell_32 : decode cX4_cell 32 = .ok (.aload_n 0, 1) := by decide +kernel
theorem dX4_cell_33 : decode cX4_cell 33 = .ok (.iload_n 1, 1) := by decide +kernel
theorem dX4_cell_34 : decode cX4_cell 34 = .ok (.invokevirtual 122, 3) := by decide +kernel
theorem dX4_cell_37 : decode cX4_cell 37 = .ok (.astore 4, 2) := by decide +kernel
theorem dX4_cell_39 : decode cX4_cell 39 = .ok (.iload_n 3, 1) := by decide +kernel
theorem dX4_cell_40 : decode cX4_cell 40 = .ok (.tableswitch 72 0 2 #[28, 36, 54], 28) := by decide +kernel
theorem dX4_cell_68 : decode cX4_cell 68 = .ok (.aload 4, 2) := by decide +kernel
theorem dX4_cell_70 : decode cX4_cell 70 = .ok (.getfield 126, 3) := by decide +kernel
theorem dX4_cell_73 : decode cX4_cell 73 = .ok (.iload_n 2, 1) := by decide +kernel
theorem dX4_cell_74 : decode cX4_cell 74 = .ok (.iaload, 1) := by decide +kernel
theorem dX4_cell_75 : decode cX4_cell 75 = .ok (.ireturn, 1) := by decide +kernel
theorem dX4_cell_76 : decode cX4_cell 76 = .ok (.aload 4, 2) := by decide +kernel
theorem dX4_cell_78 : decode cX4_cell 78 = .ok (.getfield 126, 3) := by decide +kernel
theorem dX4_cell_81 : decode cX4_cell 81 = .ok (.iload_n 2, 1) := by decide +kernel
theorem dX4_cell_82 : decode cX4_cell 82 = .ok (.iaload, 1) := by decide +kernel
theorem dX4_cell_83 : decode cX4_cell 83 = .ok (.aload_n 0, 1) := by decide +kernel
theorem dX4_cell_84 : decode cX4_cell 84 = .ok (.getfield 12, 3) := by decide +kernel
theorem dX4_cell_87 : decode cX4_cell 87 = .ok (.invokevirtual 52, 3) := by decide +kernel
theorem dX4_cell_90 : decode cX4_cell 90 = .ok (.invokestatic 129, 3) := by decide +kernel
theorem dX4_cell_93 : decode cX4_cell 93 = .ok (.ireturn, 1) := by decide +kernel
theorem dX4_cell_94 : decode cX4_cell 94 = .ok (.aload 4, 2) := by decide +kernel
theorem dX4_cell_96 : decode cX4_cell 96 = .ok (.getfield 126, 3) := by decide +kernel
theorem dX4_cell_99 : decode cX4_cell 99 = .ok (.iload_n 2, 1) := by decide +kernel
theorem dX4_cell_100 : decode cX4_cell 100 = .ok (.iaload, 1) := by decide +kernel
theorem dX4_cell_101 : decode cX4_cell 101 = .ok (.aload_n 0, 1) := by decide +kernel
theorem dX4_cell_102 : decode cX4_cell 102 = .ok (.getfield 12, 3) := by decide +kernel
theorem dX4_cell_105 : decode cX4_cell 105 = .ok (.invokevirtual 52, 3) := by decide +kernel
theorem dX4_cell_108 : decode cX4_cell 108 = .ok (.invokestatic 132, 3) := by decide +kernel
theorem dX4_cell_111 : decode cX4_cell 111 = .ok (.ireturn, 1) := by decide +kernel
theorem dX4_cell_112 : decode cX4_cell 112 = .ok (.aload 4, 2) := by decide +kernel
theorem dX4_cell_114 : decode cX4_cell 114 = .ok (.getfield 135, 3) := by decide +kernel
theorem dX4_cell_117 : decode cX4_cell 117 = .ok (.iload_n 2, 1) := by decide +kernel
theorem dX4_cell_118 : decode cX4_cell 118 = .ok (.iaload, 1) := by decide +kernel
theorem dX4_cell_119 : decode cX4_cell 119 = .ok (.ireturn, 1) := by decide +kernel
set_option maxRecDepth 20000 in
theorem ggX4_border_X1_knows : GoodIn wsX4_border wsX1_knows := goodIn_r _ [6, 7, 87, 88, 89, 90, 91, 92, 93, 94] (by decide +kernel) (by decide +kernel)
set_option maxRecDepth 20000 in
theorem gX4_border_X1_knows : GoodIn wsX4_border (wsV RX4 72 RX1 yX1_knows wsX1_knows) := goodIn_app (goodIn_of _ (by decide +kernel)) ggX4_border_X1_knows
set_option maxRecDepth 20000 in
theorem ggX4_border_X4_isDay : GoodIn wsX4_border wsX4_isDay := goodIn_r _ [11] (by decide +kernel) (by decide +kernel)
set_option maxRecDepth 20000 in
theorem gX4_border_X4_isDay : GoodIn wsX4_border (va_wsS RX4 94 yX4_isDay wsX4_isDay) := goodIn_app (goodIn_of _ (by decide +kernel)) ggX4_border_X4_isDay
set_option maxRecDepth 20000 in
theorem ggX4_border_X4_cellsOn : GoodIn wsX4_border wsX4_cellsOn := goodIn_r _ [15, 1, 16, 17, 18, 19, 20, 5, 21, 7, 22, 23, 24, 25, 26, 27, 28, 10, 29, 30, 31, 32, 33, 34, 35, 36, 37, 38, 39, 40, 41, 42, 43, 44, 45, 46, 47, 48, 49, 50, 51, 52, 53, 54, 55, 56, 57, 58, 59, 60, 61, 62, 63, 64, 65, 66, 67, 68, 69, 70, 71, 82, 83, 84, 85, 86, 95, 96, 97, 98, 99, 100, 101, 87, 88, 89, 90, 91, 92, 93, 94, 102, 103, 104, 105] (by decide +kernel) (by decide +kernel)
set_option maxRecDepth 20000 in
theorem gX4_border_X4_cellsOn : GoodIn wsX4_border (wsV RX4 122 RX4 yX4_cellsOn wsX4_cellsOn) := goodIn_app (goodIn_of _ (by decide +kernel)) ggX4_border_X4_cellsOn
set_option maxRecDepth 20000 in
theorem ggX4_border_X0_sidesTo : GoodIn wsX4_border wsX0_sidesTo := goodIn_r _ [75, 76, 77, 78, 53, 79, 56, 80, 10, 81, 102, 103, 104, 105] (by decide +kernel) (by decide +kernel)
set_option maxRecDepth 20000 in
theorem gX4_border_X0_sidesTo : GoodIn wsX4_border (wsV RX4 138 RX0 yX0_sidesTo wsX0_sidesTo) := goodIn_app (goodIn_of _ (by decide +kernel)) ggX4_border_X0_sidesTo
theorem dX4_border_0 : decode cX4_border 0 = .ok (.aload_n 0, 1) := by decide +kernel
theorem dX4_border_1 : decode cX4_border 1 = .ok (.getfield 12, 3) := by decide +kernel
theorem dX4_border_4 : decode cX4_border 4 = .ok (.iload_n 2, 1) := by decide +kernel
theorem dX4_border_5 : decode cX4_border 5 = .ok (.invokevirtual 72, 3) := by decide +kernel
theorem dX4_border_8 : decode cX4_border 8 = .ok (.ifCond .eq 14, 3) := by decide +kernel
theorem dX4_border_11 : decode cX4_border 11 = .ok (.aload_n 0, 1) := by decide +kernel
theorem dX4_border_12 : decode cX4_border 12 = .ok (.getfield 12, 3) := by decide +kernel
theorem dX4_border_15 : decode cX4_border 15 = .ok (.iload_n 3, 1) := by decide +kernel
theorem dX4_border_16 : decode cX4_border 16 = .ok (.invokevirtual 72, 3) := by decide +kernel
theorem dX4_border_19 : decode cX4_border 19 = .ok (.ifCond .ne 5, 3) := by decide +kernel
theorem dX4_border_22 : decode cX4_border 22 = .ok (.iconst (-1), 1) := by decide +kernel
theorem dX4_border_23 : decode cX4_border 23 = .ok (.ireturn, 1) := by decide +kernel
theorem dX4_border_24 : decode cX4_border 24 = .ok (.iload_n 1, 1) := by decide +kernel
theorem dX4_border_25 : decode cX4_border 25 = .ok (.invokestatic 94, 3) := by decide +kernel
theorem dX4_border_28 : decode cX4_border 28 = .ok (.ifCond .ne 6, 3) := by decide +kernel
theorem dX4_border_31 : decode cX4_border 31 = .ok (.bipush (-2), 2) := by decide +kernel
theorem dX4_border_33 : decode cX4_border 33 = .ok (.ireturn, 1) := by decide +kernel
theorem dX4_border_34 : decode cX4_border 34 = .ok (.aload_n 0, 1) := by decide +kernel
theorem dX4_border_35 : decode cX4_border 35 = .ok (.iload_n 1, 1) := by decide +kernel
theorem dX4_border_36 : decode cX4_border 36 = .ok (.invokevirtual 122, 3) := by decide +kernel
theorem dX4_border_39 : decode cX4_border 39 = .ok (.iload_n 2, 1) := by decide +kernel
theorem dX4_border_40 : decode cX4_border 40 = .ok (.iload_n 2, 1) := by decide +kernel
theorem dX4_border_41 : decode cX4_border 41 = .ok (.iload_n 3, 1) := by decide +kernel
theorem dX4_border_42 : decode cX4_border 42 = .ok (.if_icmp .ne 7, 3) := by decide +kernel
theorem dX4_border_45 : decode cX4_border 45 = .ok (.iconst (-1), 1) := by decide +kernel
theorem dX4_border_46 : decode cX4_border 46 = .ok (.goto 4, 3) := by decide +kernel
theorem dX4_border_49 : decode cX4_border 49 = .ok (.iload_n 3, 1) := by decide +kernel
theorem dX4_border_50 : decode cX4_border 50 = .ok (.invokevirtual 138, 3) := by decide +kernel
theorem dX4_border_53 : decode cX4_border 53 = .ok (.ireturn, 1) := by decide +kernel
set_option maxRecDepth 20000 in
theorem ggX4_neighbours_X1_knows : GoodIn wsX4_neighbours wsX1_knows := goodIn_r _ [6, 7, 93, 94, 95, 96, 97, 98, 99, 100] (by decide +kernel) (by decide +kernel)
set_option maxRecDepth 20000 in
theorem gX4_neighbours_X1_knows : GoodIn wsX4_neighbours (wsV RX4 72 RX1 yX1_knows wsX1_knows) := goodIn_app (goodIn_of _ (by decide +kernel)) ggX4_neighbours_X1_knows
set_option maxRecDepth 20000 in
theorem ggX4_neighbours_X4_isDay : GoodIn wsX4_neighbours wsX4_isDay := goodIn_r _ [11] (by decide +kernel) (by decide +kernel)
set_option maxRecDepth 20000 in
theorem gX4_neighbours_X4_isDay : GoodIn wsX4_neighbours (va_wsS RX4 94 yX4_isDay wsX4_isDay) := goodIn_app (goodIn_of _ (by decide +kernel)) ggX4_neighbours_X4_isDay
set_option maxRecDepth 20000 in
theorem ggX4_neighbours_X4_cellsOn : GoodIn wsX4_neighbours wsX4_cellsOn := goodIn_r _ [15, 1, 16, 17, 18, 19, 20, 5, 21, 7, 22, 23, 24, 25, 26, 27, 28, 10, 29, 30, 31, 32, 33, 34, 35, 36, 37, 38, 39, 40, 41, 42, 43, 44, 45, 46, 47, 48, 49, 50, 51, 52, 53, 54, 55, 56, 57, 58, 59, 60, 61, 62, 63, 64, 65, 66, 67, 68, 69, 70, 71, 88, 89, 90, 91, 92, 101, 102, 103, 104, 105, 106, 107, 93, 94, 95, 96, 97, 98, 99, 100, 108, 109, 110, 111] (by decide +kernel) (by decide +kernel)
set_option maxRecDepth 20000 in
theorem gX4_neighbours_X4_cellsOn : GoodIn wsX4_neighbours (wsV RX4 122 RX4 yX4_cellsOn wsX4_cellsOn) := goodIn_app (goodIn_of _ (by decide +kernel)) ggX4_neighbours_X4_cellsOn
set_option maxRecDepth 20000 in
theorem ggX4_neighbours_X0_touching : GoodIn wsX4_neighbours wsX0_touching := goodIn_r _ [75, 76, 77, 78, 53, 79, 56, 80, 10, 81, 82, 83, 84, 85, 28, 29, 86, 87, 108, 109, 110, 111] (by decide +kernel) (by decide +kernel)
set_option maxRecDepth 20000 in
theorem gX4_neighbours_X0_touching : GoodIn wsX4_neighbours (wsV RX4 141 RX0 yX0_touching wsX0_touching) := goodIn_app (goodIn_of _ (by decide +kernel)) ggX4_neighbours_X0_touching
theorem dX4_neighbours_0 : decode cX4_neighbours 0 = .ok (.aload_n 0, 1) := by decide +kernel
theorem dX4_neighbours_1 : decode cX4_neighbours 1 = .ok (.getfield 12, 3) := by decide +kernel
theorem dX4_neighbours_4 : decode cX4_neighbours 4 = .ok (.iload_n 2, 1) := by decide +kernel
theorem dX4_neighbours_5 : decode cX4_neighbours 5 = .ok (.invokevirtual 72, 3) := by decide +kernel
theorem dX4_neighbours_8 : decode cX4_neighbours 8 = .ok (.ifCond .ne 5, 3) := by decide +kernel
theorem dX4_neighbours_11 : decode cX4_neighbours 11 = .ok (.iconst (-1), 1) := by decide +kernel
theorem dX4_neighbours_12 : decode cX4_neighbours 12 = .ok (.ireturn, 1) := by decide +kernel
theorem dX4_neighbours_13 : decode cX4_neighbours 13 = .ok (.iload_n 1, 1) := by decide +kernel
theorem dX4_neighbours_14 : decode cX4_neighbours 14 = .ok (.invokestatic 94, 3) := by decide +kernel
theorem dX4_neighbours_17 : decode cX4_neighbours 17 = .ok (.ifCond .ne 6, 3) := by decide +kernel
theorem dX4_neighbours_20 : decode cX4_neighbours 20 = .ok (.bipush (-2), 2) := by decide +kernel
theorem dX4_neighbours_22 : decode cX4_neighbours 22 = .ok (.ireturn, 1) := by decide +kernel
theorem dX4_neighbours_23 : decode cX4_neighbours 23 = .ok (.aload_n 0, 1) := by decide +kernel
theorem dX4_neighbours_24 : decode cX4_neighbours 24 = .ok (.iload_n 1, 1) := by decide +kernel
theorem dX4_neighbours_25 : decode cX4_neighbours 25 = .ok (.invokevirtual 122, 3) := by decide +kernel
theorem dX4_neighbours_28 : decode cX4_neighbours 28 = .ok (.iload_n 2, 1) := by decide +kernel
theorem dX4_neighbours_29 : decode cX4_neighbours 29 = .ok (.invokevirtual 141, 3) := by decide +kernel
theorem dX4_neighbours_32 : decode cX4_neighbours 32 = .ok (.ireturn, 1) := by decide +kernel
set_option maxRecDepth 20000 in
theorem ggX4_mean_X4_isDay : GoodIn wsX4_mean wsX4_isDay := goodIn_r _ [5] (by decide +kernel) (by decide +kernel)
set_option maxRecDepth 20000 in
theorem gX4_mean_X4_isDay : GoodIn wsX4_mean (va_wsS RX4 94 yX4_isDay wsX4_isDay) := goodIn_app (goodIn_of _ (by decide +kernel)) ggX4_mean_X4_isDay
set_option maxRecDepth 20000 in
theorem ggX4_mean_X4_isPart : GoodIn wsX4_mean wsX4_isPart := goodIn_r _ [8] (by decide +kernel) (by decide +kernel)
set_option maxRecDepth 20000 in
theorem gX4_mean_X4_isPart : GoodIn wsX4_mean (va_wsS RX4 144 yX4_isPart wsX4_isPart) := goodIn_app (goodIn_of _ (by decide +kernel)) ggX4_mean_X4_isPart
set_option maxRecDepth 20000 in
theorem ggX4_mean_X4_hasMean : GoodIn wsX4_mean wsX4_hasMean := goodIn_r _ [12, 1, 13, 14, 15, 16, 17, 18, 19, 20, 21, 22, 23, 24, 25, 4, 26, 27, 28, 29, 30, 31, 32, 33, 34, 35, 36, 104, 105, 106, 107, 108, 109, 110, 111, 112, 113, 114, 115, 116] (by decide +kernel) (by decide +kernel)
set_option maxRecDepth 20000 in
theorem gX4_mean_X4_hasMean : GoodIn wsX4_mean (wsV RX4 147 RX4 yX4_hasMean wsX4_hasMean) := goodIn_app (goodIn_of _ (by decide +kernel)) ggX4_mean_X4_hasMean
set_option maxRecDepth 20000 in
theorem ggX4_mean_X4_rainOn : GoodIn wsX4_mean wsX4_rainOn := goodIn_r _ [40, 1, 41, 42, 43, 44, 45, 4, 46, 47, 48, 13, 14, 15, 16, 17, 18, 19, 20, 21, 22, 23, 24, 25, 26, 49, 50, 51, 52, 53, 54, 55, 56, 57, 58, 59, 60, 61, 62, 63, 64, 65, 66, 67, 68, 69, 70, 71, 72, 73, 74, 75, 76, 77, 78, 79, 80, 81, 82, 83, 84, 85, 86, 87, 88, 89, 90, 91, 104, 105, 106, 107, 108, 109, 110, 111, 112, 113, 114, 115, 116, 117, 118, 119, 120, 121, 122, 123, 124, 125, 126, 127] (by decide +kernel) (by decide +kernel)
set_option maxRecDepth 20000 in
theorem gX4_mean_X4_rainOn : GoodIn wsX4_mean (wsV RX4 150 RX4 yX4_rainOn wsX4_rainOn) := goodIn_app (goodIn_of _ (by decide +kernel)) ggX4_mean_X4_rainOn
set_option maxRecDepth 20000 in
theorem ggX4_mean_X1_plotCount : GoodIn wsX4_mean wsX1_plotCount := goodIn_r _ [30, 31, 32, 33, 34, 35, 16, 36, 109, 110, 111, 112, 113, 114, 115, 116] (by decide +kernel) (by decide +kernel)
set_option maxRecDepth 20000 in
theorem gX4_mean_X1_plotCount : GoodIn wsX4_mean (wsV RX4 52 RX1 yX1_plotCount wsX1_plotCount) := goodIn_app (goodIn_of _ (by decide +kernel)) ggX4_mean_X1_plotCount
set_option maxRecDepth 20000 in
theorem ggX4_mean_X4_part : GoodIn wsX4_mean wsX4_part := goodIn_r _ [94, 95, 96, 4, 97, 98, 99, 100, 101, 102, 103] (by decide +kernel) (by decide +kernel)
set_option maxRecDepth 20000 in
theorem gX4_mean_X4_part : GoodIn wsX4_mean (va_wsS RX4 153 yX4_part wsX4_part) := goodIn_app (goodIn_of _ (by decide +kernel)) ggX4_mean_X4_part
theorem dX4_mean_0 : decode cX4_mean 0 = .ok (.iload_n 1, 1) := by decide +kernel
theorem dX4_mean_1 : decode cX4_mean 1 = .ok (.invokestatic 94, 3) := by decide +kernel
theorem dX4_mean_4 : decode cX4_mean 4 = .ok (.ifCond .eq 10, 3) := by decide +kernel
theorem dX4_mean_7 : decode cX4_mean 7 = .ok (.iload_n 2, 1) := by decide +kernel
theorem dX4_mean_8 : decode cX4_mean 8 = .ok (.invokestatic 144, 3) := by decide +kernel
theorem dX4_mean_11 : decode cX4_mean 11 = .ok (.ifCond .ne 6, 3) := by decide +kernel
theorem dX4_mean_14 : decode cX4_mean 14 = .ok (.bipush (-2), 2) := by decide +kernel
theorem dX4_mean_16 : decode cX4_mean 16 = .ok (.ireturn, 1) := by decide +kernel
theorem dX4_mean_17 : decode cX4_mean 17 = .ok (.aload_n 0, 1) := by decide +kernel
theorem dX4_mean_18 : decode cX4_mean 18 = .ok (.iload_n 1, 1) := by decide +kernel
theorem dX4_mean_19 : decode cX4_mean 19 = .ok (.invokevirtual 147, 3) := by decide +kernel
theorem dX4_mean_22 : decode cX4_mean 22 = .ok (.ifCond .ne 6, 3) := by decide +kernel
theorem dX4_mean_25 : decode cX4_mean 25 = .ok (.bipush (-3), 2) := by decide +kernel
theorem dX4_mean_27 : decode cX4_mean 27 = .ok (.ireturn, 1) := by decide +kernel
theorem dX4_mean_28 : decode cX4_mean 28 = .ok (.iload_n 2, 1) := by decide +kernel
theorem dX4_mean_29 : decode cX4_mean 29 = .ok (.aload_n 0, 1) := by decide +kernel
theorem dX4_mean_30 : decode cX4_mean 30 = .ok (.iload_n 1, 1) := by decide +kernel
theorem dX4_mean_31 : decode cX4_mean 31 = .ok (.invokevirtual 150, 3) := by decide +kernel
theorem dX4_mean_34 : decode cX4_mean 34 = .ok (.aload_n 0, 1) := by decide +kernel
theorem dX4_mean_35 : decode cX4_mean 35 = .ok (.getfield 12, 3) := by decide +kernel
theorem dX4_mean_38 : decode cX4_mean 38 = .ok (.invokevirtual 52, 3) := by decide +kernel
theorem dX4_mean_41 : decode cX4_mean 41 = .ok (.invokestatic 153, 3) := by decide +kernel
theorem dX4_mean_44 : decode cX4_mean 44 = .ok (.ireturn, 1) := by decide +kernel
set_option maxRecDepth 20000 in
theorem ggX4_total_X4_areDays : GoodIn wsX4_total wsX4_areDays := goodIn_r _ [5, 6, 7, 4, 8] (by decide +kernel) (by decide +kernel)
set_option maxRecDepth 20000 in
theorem gX4_total_X4_areDays : GoodIn wsX4_total (va_wsS RX4 83 yX4_areDays wsX4_areDays) := goodIn_app (goodIn_of _ (by decide +kernel)) ggX4_total_X4_areDays
set_option maxRecDepth 20000 in
theorem ggX4_total_X4_hasMean : GoodIn wsX4_total wsX4_hasMean := goodIn_r _ [12, 1, 13, 14, 15, 16, 17, 18, 19, 20, 21, 22, 23, 24, 25, 4, 26, 27, 28, 29, 30, 31, 32, 33, 34, 35, 36, 104, 105, 106, 107, 108, 109, 110, 111, 112, 113, 114, 115, 116] (by decide +kernel) (by decide +kernel)
set_option maxRecDepth 20000 in
theorem gX4_total_X4_hasMean : GoodIn wsX4_total (wsV RX4 147 RX4 yX4_hasMean wsX4_hasMean) := goodIn_app (goodIn_of _ (by decide +kernel)) ggX4_total_X4_hasMean
set_option maxRecDepth 20000 in
theorem ggX4_total_X4_rainOn : GoodIn wsX4_total wsX4_rainOn := goodIn_r _ [40, 1, 41, 42, 43, 44, 45, 4, 46, 47, 48, 13, 14, 15, 16, 17, 18, 19, 20, 21, 22, 23, 24, 25, 26, 49, 50, 51, 52, 53, 54, 55, 56, 57, 58, 59, 60, 61, 62, 63, 64, 65, 66, 67, 68, 69, 70, 71, 72, 73, 74, 75, 76, 77, 78, 79, 80, 81, 82, 83, 84, 85, 86, 87, 88, 89, 90, 91, 104, 105, 106, 107, 108, 109, 110, 111, 112, 113, 114, 115, 116, 117, 118, 119, 120, 121, 122, 123, 124, 125, 126, 127] (by decide +kernel) (by decide +kernel)
set_option maxRecDepth 20000 in
theorem gX4_total_X4_rainOn : GoodIn wsX4_total (wsV RX4 150 RX4 yX4_rainOn wsX4_rainOn) := goodIn_app (goodIn_of _ (by decide +kernel)) ggX4_total_X4_rainOn
set_option maxRecDepth 20000 in
theorem ggX4_total_X1_plotCount : GoodIn wsX4_total wsX1_plotCount := goodIn_r _ [30, 31, 32, 33, 34, 35, 16, 36, 109, 110, 111, 112, 113, 114, 115, 116] (by decide +kernel) (by decide +kernel)
set_option maxRecDepth 20000 in
theorem gX4_total_X1_plotCount : GoodIn wsX4_total (wsV RX4 52 RX1 yX1_plotCount wsX1_plotCount) := goodIn_app (goodIn_of _ (by decide +kernel)) ggX4_total_X1_plotCount
set_option maxRecDepth 20000 in
theorem ggX4_total_X4_part : GoodIn wsX4_total wsX4_part := goodIn_r _ [94, 95, 96, 4, 97, 98, 99, 100, 101, 102, 103] (by decide +kernel) (by decide +kernel)
set_option maxRecDepth 20000 in
theorem gX4_total_X4_part : GoodIn wsX4_total (va_wsS RX4 153 yX4_part wsX4_part) := goodIn_app (goodIn_of _ (by decide +kernel)) ggX4_total_X4_part
theorem dX4_total_0 : decode cX4_total 0 = .ok (.iload_n 1, 1) := by decide +kernel
theorem dX4_total_1 : decode cX4_total 1 = .ok (.iload_n 2, 1) := by decide +kernel
theorem dX4_total_2 : decode cX4_total 2 = .ok (.invokestatic 83, 3) := by decide +kernel
theorem dX4_total_5 : decode cX4_total 5 = .ok (.ifCond .eq 12, 3) := by decide +kernel
theorem dX4_total_8 : decode cX4_total 8 = .ok (.iload_n 3, 1) := by decide +kernel
theorem dX4_total_9 : decode cX4_total 9 = .ok (.ifCond .lt 8, 3) := by decide +kernel
theorem dX4_total_12 : decode cX4_total 12 = .ok (.iload_n 3, 1) := by decide +kernel
theorem dX4_total_13 : decode cX4_total 13 = .ok (.iconst 2, 1) := by decide +kernel
theorem dX4_total_14 : decode cX4_total 14 = .ok (.if_icmp .le 6, 3) := by decide +kernel
theorem dX4_total_17 : decode cX4_total 17 = .ok (.bipush (-2), 2) := by decide +kernel
theorem dX4_total_19 : decode cX4_total 19 = .ok (.ireturn, 1) := by decide +kernel
theorem dX4_total_20 : decode cX4_total 20 = .ok (.iconst 0, 1) := by decide +kernel
theorem dX4_total_21 : decode cX4_total 21 = .ok (.istore 4, 2) := by decide +kernel
theorem dX4_total_23 : decode cX4_total 23 = .ok (.iconst 0, 1) := by decide +kernel
theorem dX4_total_24 : decode cX4_total 24 = .ok (.istore 5, 2) := by decide +kernel
theorem dX4_total_26 : decode cX4_total 26 = .ok (.iload_n 1, 1) := by decide +kernel
theorem dX4_total_27 : decode cX4_total 27 = .ok (.istore 6, 2) := by decide +kernel
theorem dX4_total_29 : decode cX4_total 29 = .ok (.iload 6, 2) := by decide +kernel
theorem dX4_total_31 : decode cX4_total 31 = .ok (.iload_n 2, 1) := by decide +kernel
theorem dX4_total_32 : decode cX4_total 32 = .ok (.if_icmp .gt 32, 3) := by decide +kernel
theorem dX4_total_35 : decode cX4_total 35 = .ok (.aload_n 0, 1) := by decide +kernel
theorem dX4_total_36 : decode cX4_total 36 = .ok (.iload 6, 2) := by decide +kernel
theorem dX4_total_38 : decode cX4_total 38 = .ok (.invokevirtual 147, 3) := by decide +kernel
theorem dX4_total_41 : decode cX4_total 41 = .ok (.ifCond .eq 17, 3) := by decide +kernel
theorem dX4_total_44 : decode cX4_total 44 = .ok (.iload 4, 2) := by decide +kernel
theorem dX4_total_46 : decode cX4_total 46 = .ok (.aload_n 0, 1) := by decide +kernel
theorem dX4_total_47 : decode cX4_total 47 = .ok (.iload 6, 2) := by decide +kernel
theorem dX4_total_49 : decode cX4_total 49 = .ok (.invokevirtual 150, 3) := by decide +kernel
theorem dX4_total_52 : decode cX4_total 52 = .ok (.iadd, 1) := by decide +kernel
theorem dX4_total_53 : decode cX4_total 53 = .ok (.istore 4, 2) := by decide +kernel
theorem dX4_total_55 : decode cX4_total 55 = .ok (.iinc 5 1, 3) := by decide +kernel
theorem dX4_total_58 : decode cX4_total 58 = .ok (.iinc 6 1, 3) := by decide +kernel
theorem dX4_total_61 : decode cX4_total 61 = .ok (.goto (-32), 3) := by decide +kernel
theorem dX4_total_64 : decode cX4_total 64 = .ok (.iload_n 3, 1) := by decide +kernel
theorem dX4_total_65 : decode cX4_total 65 = .ok (.iconst 2, 1) := by decide +kernel
theorem dX4_total_66 : decode cX4_total 66 = .ok (.if_icmp .ne 8, 3) := by decide +kernel
theorem dX4_total_69 : decode cX4_total 69 = .ok (.iload 5, 2) := by decide +kernel
theorem dX4_total_71 : decode cX4_total 71 = .ok (.goto 16, 3) := by decide +kernel
theorem dX4_total_74 : decode cX4_total 74 = .ok (.iload_n 3, 1) := by decide +kernel
theorem dX4_total_75 : decode cX4_total 75 = .ok (.iload 4, 2) := by decide +kernel
theorem dX4_total_77 : decode cX4_total 77 = .ok (.aload_n 0, 1) := by decide +kernel
theorem dX4_total_78 : decode cX4_total 78 = .ok (.getfield 12, 3) := by decide +kernel
theorem dX4_total_81 : decode cX4_total 81 = .ok (.invokevirtual 52, 3) := by decide +kernel
theorem dX4_total_84 : decode cX4_total 84 = .ok (.invokestatic 153, 3) := by decide +kernel
theorem dX4_total_87 : decode cX4_total 87 = .ok (.ireturn, 1) := by decide +kernel
set_option maxRecDepth 20000 in
theorem ggX4_spread_X4_isDay : GoodIn wsX4_spread wsX4_isDay := goodIn_r _ [6] (by decide +kernel) (by decide +kernel)
set_option maxRecDepth 20000 in
theorem gX4_spread_X4_isDay : GoodIn wsX4_spread (va_wsS RX4 94 yX4_isDay wsX4_isDay) := goodIn_app (goodIn_of _ (by decide +kernel)) ggX4_spread_X4_isDay
set_option maxRecDepth 20000 in
theorem ggX4_spread_X1_workingOn : GoodIn wsX4_spread wsX1_workingOn := goodIn_r _ [11, 12, 13, 14, 15, 16, 10, 17, 18, 19, 5, 20, 72, 73, 74, 75, 76, 77, 78, 79] (by decide +kernel) (by decide +kernel)
set_option maxRecDepth 20000 in
theorem gX4_spread_X1_workingOn : GoodIn wsX4_spread (wsV RX4 107 RX1 yX1_workingOn wsX1_workingOn) := goodIn_app (goodIn_of _ (by decide +kernel)) ggX4_spread_X1_workingOn
set_option maxRecDepth 20000 in
theorem ggX4_spread_X3_lookUp : GoodIn wsX4_spread wsX3_lookUp := goodIn_r _ [25, 26, 27, 28, 29, 30, 31, 32, 33, 34, 24, 35, 36, 37, 38, 39, 40, 41, 42, 43, 44, 45, 46, 47, 48, 49, 50, 51, 52, 53, 5, 54, 55, 56, 57, 58, 59, 60, 61, 62, 80, 81, 82, 83, 84, 85, 86, 87, 88, 89, 90, 72, 73, 74, 75, 76, 77, 78, 79] (by decide +kernel) (by decide +kernel)
set_option maxRecDepth 20000 in
theorem gX4_spread_X3_lookUp : GoodIn wsX4_spread (wsV RX4 113 RX3 yX3_lookUp wsX3_lookUp) := goodIn_app (goodIn_of _ (by decide +kernel)) ggX4_spread_X3_lookUp
set_option maxRecDepth 20000 in
theorem ggX4_spread_X0_farOfAll : GoodIn wsX4_spread wsX0_farOfAll := goodIn_r _ [66, 51, 87, 88, 89, 90] (by decide +kernel) (by decide +kernel)
set_option maxRecDepth 20000 in
theorem gX4_spread_X0_farOfAll : GoodIn wsX4_spread (wsV RX4 156 RX0 yX0_farOfAll wsX0_farOfAll) := goodIn_app (goodIn_of _ (by decide +kernel)) ggX4_spread_X0_farOfAll
theorem dX4_spread_0 : decode cX4_spread 0 = .ok (.iload_n 1, 1) := by decide +kernel
theorem dX4_spread_1 : decode cX4_spread 1 = .ok (.invokestatic 94, 3) := by decide +kernel
theorem dX4_spread_4 : decode cX4_spread 4 = .ok (.ifCond .ne 6, 3) := by decide +kernel
theorem dX4_spread_7 : decode cX4_spread 7 = .ok (.bipush (-2), 2) := by decide +kernel
theorem dX4_spread_9 : decode cX4_spread 9 = .ok (.ireturn, 1) := by decide +kernel
theorem dX4_spread_10 : decode cX4_spread 10 = .ok (.aload_n 0, 1) := by decide +kernel
theorem dX4_spread_11 : decode cX4_spread 11 = .ok (.getfield 12, 3) := by decide +kernel
theorem dX4_spread_14 : decode cX4_spread 14 = .ok (.iload_n 1, 1) := by decide +kernel
theorem dX4_spread_15 : decode cX4_spread 15 = .ok (.invokevirtual 107, 3) := by decide +kernel
theorem dX4_spread_18 : decode cX4_spread 18 = .ok (.istore_n 2, 1) := by decide +kernel
theorem dX4_spread_19 : decode cX4_spread 19 = .ok (.iload_n 2, 1) := by decide +kernel
theorem dX4_spread_20 : decode cX4_spread 20 = .ok (.ifCond .ne 6, 3) := by decide +kernel
theorem dX4_spread_23 : decode cX4_spread 23 = .ok (.bipush (-6), 2) := by decide +kernel
theorem dX4_spread_25 : decode cX4_spread 25 = .ok (.ireturn, 1) := by decide +kernel
theorem dX4_spread_26 : decode cX4_spread 26 = .ok (.aload_n 0, 1) := by decide +kernel
theorem dX4_spread_27 : decode cX4_spread 27 = .ok (.getfield 27, 3) := by decide +kernel
theorem dX4_spread_30 : decode cX4_spread 30 = .ok (.aload_n 0, 1) := by decide +kernel
theorem dX4_spread_31 : decode cX4_spread 31 = .ok (.getfield 12, 3) := by decide +kernel
theorem dX4_spread_34 : decode cX4_spread 34 = .ok (.iload_n 2, 1) := by decide +kernel
theorem dX4_spread_35 : decode cX4_spread 35 = .ok (.invokevirtual 113, 3) := by decide +kernel
theorem dX4_spread_38 : decode cX4_spread 38 = .ok (.invokevirtual 156, 3) := by decide +kernel
theorem dX4_spread_41 : decode cX4_spread 41 = .ok (.ireturn, 1) := by decide +kernel
set_option maxRecDepth 20000 in
theorem ggX4_next_X4_isDay : GoodIn wsX4_next wsX4_isDay := goodIn_r _ [10] (by decide +kernel) (by decide +kernel)
set_option maxRecDepth 20000 in
theorem gX4_next_X4_isDay : GoodIn wsX4_next (va_wsS RX4 94 yX4_isDay wsX4_isDay) := goodIn_app (goodIn_of _ (by decide +kernel)) ggX4_next_X4_isDay
set_option maxRecDepth 20000 in
theorem ggX4_next_X1_workingOn : GoodIn wsX4_next wsX1_workingOn := goodIn_r _ [15, 16, 17, 18, 19, 20, 14, 21, 22, 23, 9, 24, 101, 102, 103, 104, 105, 106, 107, 108] (by decide +kernel) (by decide +kernel)
set_option maxRecDepth 20000 in
theorem gX4_next_X1_workingOn : GoodIn wsX4_next (wsV RX4 107 RX1 yX1_workingOn wsX1_workingOn) := goodIn_app (goodIn_of _ (by decide +kernel)) ggX4_next_X1_workingOn
set_option maxRecDepth 20000 in
theorem ggX4_next_X2_run : GoodIn wsX4_next wsX2_run := goodIn_r _ [29, 30, 31, 32, 33, 34, 35, 36, 37, 38, 39, 40, 41, 42, 43, 44, 45, 46, 47, 48, 9, 49, 50, 51, 52, 53, 54, 55, 56, 57, 58, 59, 60, 28, 61, 62, 63, 64, 65, 66, 67, 68, 69, 70, 71, 72, 73, 74, 14, 75, 16, 76, 77, 78, 79, 80, 81, 82, 83, 84, 85, 86, 87, 93, 94, 95, 96, 97, 98, 99, 100, 101, 102, 103, 104, 105, 106, 107, 108, 109, 110, 111, 112] (by decide +kernel) (by decide +kernel)
set_option maxRecDepth 20000 in
theorem gX4_next_X2_run : GoodIn wsX4_next (wsV RX4 159 RX2 yX2_run wsX2_run) := goodIn_app (goodIn_of _ (by decide +kernel)) ggX4_next_X2_run
theorem dX4_next_0 : decode cX4_next 0 = .ok (.iload_n 1, 1) := by decide +kernel
theorem dX4_next_1 : decode cX4_next 1 = .ok (.invokestatic 94, 3) := by decide +kernel
theorem dX4_next_4 : decode cX4_next 4 = .ok (.ifCond .eq 12, 3) := by decide +kernel
theorem dX4_next_7 : decode cX4_next 7 = .ok (.iload_n 2, 1) := by decide +kernel
theorem dX4_next_8 : decode cX4_next 8 = .ok (.ifCond .lt 8, 3) := by decide +kernel
theorem dX4_next_11 : decode cX4_next 11 = .ok (.iload_n 2, 1) := by decide +kernel
theorem dX4_next_12 : decode cX4_next 12 = .ok (.iconst 2, 1) := by decide +kernel
theorem dX4_next_13 : decode cX4_next 13 = .ok (.if_icmp .le 6, 3) := by decide +kernel
theorem dX4_next_16 : decode cX4_next 16 = .ok (.bipush (-2), 2) := by decide +kernel
theorem dX4_next_18 : decode cX4_next 18 = .ok (.ireturn, 1) := by decide +kernel
theorem dX4_next_19 : decode cX4_next 19 = .ok (.aload_n 0, 1) := by decide +kernel
theorem dX4_next_20 : decode cX4_next 20 = .ok (.getfield 34, 3) := by decide +kernel
theorem dX4_next_23 : decode cX4_next 23 = .ok (.aload_n 0, 1) := by decide +kernel
theorem dX4_next_24 : decode cX4_next 24 = .ok (.getfield 12, 3) := by decide +kernel
theorem dX4_next_27 : decode cX4_next 27 = .ok (.aload_n 0, 1) := by decide +kernel
theorem dX4_next_28 : decode cX4_next 28 = .ok (.getfield 12, 3) := by decide +kernel
theorem dX4_next_31 : decode cX4_next 31 = .ok (.iload_n 1, 1) := by decide +kernel
theorem dX4_next_32 : decode cX4_next 32 = .ok (.invokevirtual 107, 3) := by decide +kernel
theorem dX4_next_35 : decode cX4_next 35 = .ok (.invokevirtual 159, 3) := by decide +kernel
theorem dX4_next_38 : decode cX4_next 38 = .ok (.aload_n 0, 1) := by decide +kernel
theorem dX4_next_39 : decode cX4_next 39 = .ok (.getfield 34, 3) := by decide +kernel
theorem dX4_next_42 : decode cX4_next 42 = .ok (.getfield 163, 3) := by decide +kernel
theorem dX4_next_45 : decode cX4_next 45 = .ok (.ldc 166, 2) := by decide +kernel
theorem dX4_next_47 : decode cX4_next 47 = .ok (.if_icmp .ne 6, 3) := by decide +kernel
theorem dX4_next_50 : decode cX4_next 50 = .ok (.bipush (-6), 2) := by decide +kernel
theorem dX4_next_52 : decode cX4_next 52 = .ok (.ireturn, 1) := by decide +kernel
theorem dX4_next_53 : decode cX4_next 53 = .ok (.iload_n 2, 1) := by decide +kernel
theorem dX4_next_54 : decode cX4_next 54 = .ok (.lookupswitch 42 #[(0, 26), (1, 34)], 26) := by decide +kernel
theorem dX4_next_80 : decode cX4_next 80 = .ok (.aload_n 0, 1) := by decide +kernel
theorem dX4_next_81 : decode cX4_next 81 = .ok (.getfield 34, 3) := by decide +kernel
theorem dX4_next_84 : decode cX4_next 84 = .ok (.getfield 167, 3) := by decide +kernel
theorem dX4_next_87 : decode cX4_next 87 = .ok (.ireturn, 1) := by decide +kernel
theorem dX4_next_88 : decode cX4_next 88 = .ok (.aload_n 0, 1) := by decide +kernel
theorem dX4_next_89 : decode cX4_next 89 = .ok (.getfield 34, 3) := by decide +kernel
theorem dX4_next_92 : decode cX4_next 92 = .ok (.getfield 170, 3) := by decide +kernel
theorem dX4_next_95 : decode cX4_next 95 = .ok (.ireturn, 1) := by decide +kernel
theorem dX4_next_96 : decode cX4_next 96 = .ok (.aload_n 0, 1) := by decide +kernel
theorem dX4_next_97 : decode cX4_next 97 = .ok (.getfield 34, 3) := by decide +kernel
theorem dX4_next_100 : decode cX4_next 100 = .ok (.getfield 163, 3) := by decide +kernel
theorem dX4_next_103 : decode cX4_next 103 = .ok (.ireturn, 1) := by decide +kernel
set_option maxRecDepth 20000 in
theorem ggX4_shared_X1_knows : GoodIn wsX4_shared wsX1_knows := goodIn_r _ [7, 8, 80, 81, 82, 83, 84, 85, 86, 87] (by decide +kernel) (by decide +kernel)
set_option maxRecDepth 20000 in
theorem gX4_shared_X1_knows : GoodIn wsX4_shared (wsV RX4 72 RX1 yX1_knows wsX1_knows) := goodIn_app (goodIn_of _ (by decide +kernel)) ggX4_shared_X1_knows
set_option maxRecDepth 20000 in
theorem ggX4_shared_X4_isDay : GoodIn wsX4_shared wsX4_isDay := goodIn_r _ [12] (by decide +kernel) (by decide +kernel)
set_option maxRecDepth 20000 in
theorem gX4_shared_X4_isDay : GoodIn wsX4_shared (va_wsS RX4 94 yX4_isDay wsX4_isDay) := goodIn_app (goodIn_of _ (by decide +kernel)) ggX4_shared_X4_isDay
set_option maxRecDepth 20000 in
theorem ggX4_shared_X1_workingOn : GoodIn wsX4_shared wsX1_workingOn := goodIn_r _ [16, 8, 17, 18, 19, 20, 6, 21, 22, 23, 11, 24, 80, 81, 82, 83, 84, 85, 86, 87] (by decide +kernel) (by decide +kernel)
set_option maxRecDepth 20000 in
theorem gX4_shared_X1_workingOn : GoodIn wsX4_shared (wsV RX4 107 RX1 yX1_workingOn wsX1_workingOn) := goodIn_app (goodIn_of _ (by decide +kernel)) ggX4_shared_X1_workingOn
set_option maxRecDepth 20000 in
theorem ggX4_shared_X4_without : GoodIn wsX4_shared wsX4_without := goodIn_r _ [27] (by decide +kernel) (by decide +kernel)
set_option maxRecDepth 20000 in
theorem gX4_shared_X4_without : GoodIn wsX4_shared (va_wsS RX4 173 yX4_without wsX4_without) := goodIn_app (goodIn_of _ (by decide +kernel)) ggX4_shared_X4_without
set_option maxRecDepth 20000 in
theorem ggX4_shared_X4_with : GoodIn wsX4_shared wsX4_with := goodIn_r _ [24] (by decide +kernel) (by decide +kernel)
set_option maxRecDepth 20000 in
theorem gX4_shared_X4_with : GoodIn wsX4_shared (va_wsS RX4 176 yX4_with wsX4_with) := goodIn_app (goodIn_of _ (by decide +kernel)) ggX4_shared_X4_with
set_option maxRecDepth 20000 in
theorem ggX4_shared_X3_lookUp : GoodIn wsX4_shared wsX3_lookUp := goodIn_r _ [33, 34, 35, 36, 37, 38, 39, 40, 41, 42, 32, 43, 44, 45, 46, 47, 48, 49, 50, 51, 52, 53, 54, 55, 56, 57, 58, 59, 60, 61, 11, 62, 63, 64, 65, 66, 67, 68, 69, 70, 88, 89, 90, 91, 92, 93, 94, 95, 96, 97, 98, 80, 81, 82, 83, 84, 85, 86, 87] (by decide +kernel) (by decide +kernel)
set_option maxRecDepth 20000 in
theorem gX4_shared_X3_lookUp : GoodIn wsX4_shared (wsV RX4 113 RX3 yX3_lookUp wsX3_lookUp) := goodIn_app (goodIn_of _ (by decide +kernel)) ggX4_shared_X3_lookUp
set_option maxRecDepth 20000 in
theorem ggX4_shared_X0_inBoth : GoodIn wsX4_shared wsX0_inBoth := goodIn_r _ [74, 55, 95, 96, 97, 98] (by decide +kernel) (by decide +kernel)
set_option maxRecDepth 20000 in
theorem gX4_shared_X0_inBoth : GoodIn wsX4_shared (wsV RX4 179 RX0 yX0_inBoth wsX0_inBoth) := goodIn_app (goodIn_of _ (by decide +kernel)) ggX4_shared_X0_inBoth
theorem dX4_shared_0 : decode cX4_shared 0 = .ok (.aload_n 0, 1) := by decide +kernel
theorem dX4_shared_1 : decode cX4_shared 1 = .ok (.getfield 12, 3) := by decide +kernel
theorem dX4_shared_4 : decode cX4_shared 4 = .ok (.iload_n 2, 1) := by decide +kernel
theorem dX4_shared_5 : decode cX4_shared 5 = .ok (.invokevirtual 72, 3) := by decide +kernel
theorem dX4_shared_8 : decode cX4_shared 8 = .ok (.ifCond .eq 14, 3) := by decide +kernel
theorem dX4_shared_11 : decode cX4_shared 11 = .ok (.aload_n 0, 1) := by decide +kernel
theorem dX4_shared_12 : decode cX4_shared 12 = .ok (.getfield 12, 3) := by decide +kernel
theorem dX4_shared_15 : decode cX4_shared 15 = .ok (.iload_n 3, 1) := by decide +kernel
theorem dX4_shared_16 : decode cX4_shared 16 = .ok (.invokevirtual 72, 3) := by decide +kernel
theorem dX4_shared_19 : decode cX4_shared 19 = .ok (.ifCond .ne 5, 3) := by decide +kernel
theorem dX4_shared_22 : decode cX4_shared 22 = .ok (.iconst (-1), 1) := by decide +kernel
theorem dX4_shared_23 : decode cX4_shared 23 = .ok (.ireturn, 1) := by decide +kernel
theorem dX4_shared_24 : decode cX4_shared 24 = .ok (.iload_n 1, 1) := by decide +kernel
theorem dX4_shared_25 : decode cX4_shared 25 = .ok (.invokestatic 94, 3) := by decide +kernel
theorem dX4_shared_28 : decode cX4_shared 28 = .ok (.ifCond .eq 8, 3) := by decide +kernel
theorem dX4_shared_31 : decode cX4_shared 31 = .ok (.iload_n 2, 1) := by decide +kernel
theorem dX4_shared_32 : decode cX4_shared 32 = .ok (.iload_n 3, 1) := by decide +kernel
theorem dX4_shared_33 : decode cX4_shared 33 = .ok (.if_icmp .ne 6, 3) := by decide +kernel
theorem dX4_shared_36 : decode cX4_shared 36 = .ok (.bipush (-2), 2) := by decide +kernel
theorem dX4_shared_38 : decode cX4_shared 38 = .ok (.ireturn, 1) := by decide +kernel
theorem dX4_shared_39 : decode cX4_shared 39 = .ok (.aload_n 0, 1) := by decide +kernel
theorem dX4_shared_40 : decode cX4_shared 40 = .ok (.getfield 12, 3) := by decide +kernel
theorem dX4_shared_43 : decode cX4_shared 43 = .ok (.iload_n 1, 1) := by decide +kernel
theorem dX4_shared_44 : decode cX4_shared 44 = .ok (.invokevirtual 107, 3) := by decide +kernel
theorem dX4_shared_47 : decode cX4_shared 47 = .ok (.istore 4, 2) := by decide +kernel
theorem dX4_shared_49 : decode cX4_shared 49 = .ok (.iload 4, 2) := by decide +kernel
theorem dX4_shared_51 : decode cX4_shared 51 = .ok (.iload_n 2, 1) := by decide +kernel
theorem dX4_shared_52 : decode cX4_shared 52 = .ok (.invokestatic 173, 3) := by decide +kernel
theorem dX4_shared_55 : decode cX4_shared 55 = .ok (.ifCond .ne 6, 3) := by decide +kernel
theorem dX4_shared_58 : decode cX4_shared 58 = .ok (.bipush (-3), 2) := by decide +kernel
theorem dX4_shared_60 : decode cX4_shared 60 = .ok (.ireturn, 1) := by decide +kernel
theorem dX4_shared_61 : decode cX4_shared 61 = .ok (.aload_n 0, 1) := by decide +kernel
theorem dX4_shared_62 : decode cX4_shared 62 = .ok (.getfield 27, 3) := by decide +kernel
theorem dX4_shared_65 : decode cX4_shared 65 = .ok (.aload_n 0, 1) := by decide +kernel
theorem dX4_shared_66 : decode cX4_shared 66 = .ok (.getfield 12, 3) := by decide +kernel
theorem dX4_shared_69 : decode cX4_shared 69 = .ok (.iload 4, 2) := by decide +kernel
theorem dX4_shared_71 : decode cX4_shared 71 = .ok (.iload_n 2, 1) := by decide +kernel
theorem dX4_shared_72 : decode cX4_shared 72 = .ok (.invokestatic 176, 3) := by decide +kernel
theorem dX4_shared_75 : decode cX4_shared 75 = .ok (.invokevirtual 113, 3) := by decide +kernel
theorem dX4_shared_78 : decode cX4_shared 78 = .ok (.astore 5, 2) := by decide +kernel
theorem dX4_shared_80 : decode cX4_shared 80 = .ok (.aload_n 0, 1) := by decide +kernel
theorem dX4_shared_81 : decode cX4_shared 81 = .ok (.getfield 27, 3) := by decide +kernel
theorem dX4_shared_84 : decode cX4_shared 84 = .ok (.aload_n 0, 1) := by decide +kernel
theorem dX4_shared_85 : decode cX4_shared 85 = .ok (.getfield 12, 3) := by decide +kernel
theorem dX4_shared_88 : decode cX4_shared 88 = .ok (.iload 4, 2) := by decide +kernel
theorem dX4_shared_90 : decode cX4_shared 90 = .ok (.iload_n 2, 1) := by decide +kernel
theorem dX4_shared_91 : decode cX4_shared 91 = .ok (.invokestatic 173, 3) := by decide +kernel
theorem dX4_shared_94 : decode cX4_shared 94 = .ok (.invokevirtual 113, 3) := by decide +kernel
theorem dX4_shared_97 : decode cX4_shared 97 = .ok (.astore 6, 2) := by decide +kernel
theorem dX4_shared_99 : decode cX4_shared 99 = .ok (.aload 5, 2) := by decide +kernel
theorem dX4_shared_101 : decode cX4_shared 101 = .ok (.iload_n 2, 1) := by decide +kernel
theorem dX4_shared_102 : decode cX4_shared 102 = .ok (.aload 6, 2) := by decide +kernel
theorem dX4_shared_104 : decode cX4_shared 104 = .ok (.iload_n 3, 1) := by decide +kernel
theorem dX4_shared_105 : decode cX4_shared 105 = .ok (.invokevirtual 179, 3) := by decide +kernel
theorem dX4_shared_108 : decode cX4_shared 108 = .ok (.ireturn, 1) := by decide +kernel
set_option maxRecDepth 20000 in
theorem ggX4_estimate_X1_knows : GoodIn wsX4_estimate wsX1_knows := goodIn_r _ [8, 9, 102, 103, 104, 105, 106, 107, 108, 109] (by decide +kernel) (by decide +kernel)
set_option maxRecDepth 20000 in
theorem gX4_estimate_X1_knows : GoodIn wsX4_estimate (wsV RX4 72 RX1 yX1_knows wsX1_knows) := goodIn_app (goodIn_of _ (by decide +kernel)) ggX4_estimate_X1_knows
set_option maxRecDepth 20000 in
theorem ggX4_estimate_X4_isDay : GoodIn wsX4_estimate wsX4_isDay := goodIn_r _ [13] (by decide +kernel) (by decide +kernel)
set_option maxRecDepth 20000 in
theorem gX4_estimate_X4_isDay : GoodIn wsX4_estimate (va_wsS RX4 94 yX4_isDay wsX4_isDay) := goodIn_app (goodIn_of _ (by decide +kernel)) ggX4_estimate_X4_isDay
set_option maxRecDepth 20000 in
theorem ggX4_estimate_X4_isPart : GoodIn wsX4_estimate wsX4_isPart := goodIn_r _ [16] (by decide +kernel) (by decide +kernel)
set_option maxRecDepth 20000 in
theorem gX4_estimate_X4_isPart : GoodIn wsX4_estimate (va_wsS RX4 144 yX4_isPart wsX4_isPart) := goodIn_app (goodIn_of _ (by decide +kernel)) ggX4_estimate_X4_isPart
set_option maxRecDepth 20000 in
theorem ggX4_estimate_X1_workingOn : GoodIn wsX4_estimate wsX1_workingOn := goodIn_r _ [20, 9, 21, 22, 23, 24, 7, 25, 26, 27, 12, 28, 102, 103, 104, 105, 106, 107, 108, 109] (by decide +kernel) (by decide +kernel)
set_option maxRecDepth 20000 in
theorem gX4_estimate_X1_workingOn : GoodIn wsX4_estimate (wsV RX4 107 RX1 yX1_workingOn wsX1_workingOn) := goodIn_app (goodIn_of _ (by decide +kernel)) ggX4_estimate_X1_workingOn
set_option maxRecDepth 20000 in
theorem ggX4_estimate_X4_without : GoodIn wsX4_estimate wsX4_without := goodIn_r _ [31] (by decide +kernel) (by decide +kernel)
set_option maxRecDepth 20000 in
theorem gX4_estimate_X4_without : GoodIn wsX4_estimate (va_wsS RX4 173 yX4_without wsX4_without) := goodIn_app (goodIn_of _ (by decide +kernel)) ggX4_estimate_X4_without
set_option maxRecDepth 20000 in
theorem ggX4_estimate_X4_with : GoodIn wsX4_estimate wsX4_with := goodIn_r _ [28] (by decide +kernel) (by decide +kernel)
set_option maxRecDepth 20000 in
theorem gX4_estimate_X4_with : GoodIn wsX4_estimate (va_wsS RX4 176 yX4_with wsX4_with) := goodIn_app (goodIn_of _ (by decide +kernel)) ggX4_estimate_X4_with
set_option maxRecDepth 20000 in
theorem ggX4_estimate_X3_lookUp : GoodIn wsX4_estimate wsX3_lookUp := goodIn_r _ [37, 38, 39, 40, 41, 42, 43, 44, 45, 46, 36, 47, 48, 49, 50, 51, 52, 53, 54, 55, 56, 57, 58, 59, 60, 61, 62, 63, 64, 65, 12, 66, 67, 68, 69, 70, 71, 72, 73, 74, 110, 111, 112, 113, 114, 115, 116, 98, 99, 100, 101, 102, 103, 104, 105, 106, 107, 108, 109] (by decide +kernel) (by decide +kernel)
set_option maxRecDepth 20000 in
theorem gX4_estimate_X3_lookUp : GoodIn wsX4_estimate (wsV RX4 113 RX3 yX3_lookUp wsX3_lookUp) := goodIn_app (goodIn_of _ (by decide +kernel)) ggX4_estimate_X3_lookUp
set_option maxRecDepth 20000 in
theorem ggX4_estimate_X4_rainOfOthers : GoodIn wsX4_estimate wsX4_rainOfOthers := goodIn_r _ [78, 79, 1, 80, 23, 24, 7, 25, 26, 98, 99, 100, 101, 93, 94, 95, 96, 97, 102, 103, 104, 105, 106, 107, 108, 109] (by decide +kernel) (by decide +kernel)
set_option maxRecDepth 20000 in
theorem gX4_estimate_X4_rainOfOthers : GoodIn wsX4_estimate (wsV RX4 183 RX4 yX4_rainOfOthers wsX4_rainOfOthers) := goodIn_app (goodIn_of _ (by decide +kernel)) ggX4_estimate_X4_rainOfOthers
set_option maxRecDepth 20000 in
theorem ggX4_estimate_X4_part : GoodIn wsX4_estimate wsX4_part := goodIn_r _ [83, 84, 85, 12, 86, 87, 88, 89, 90, 91, 92] (by decide +kernel) (by decide +kernel)
set_option maxRecDepth 20000 in
theorem gX4_estimate_X4_part : GoodIn wsX4_estimate (va_wsS RX4 153 yX4_part wsX4_part) := goodIn_app (goodIn_of _ (by decide +kernel)) ggX4_estimate_X4_part
theorem dX4_estimate_0 : decode cX4_estimate 0 = .ok (.aload_n 0, 1) := by decide +kernel
theorem dX4_estimate_1 : decode cX4_estimate 1 = .ok (.getfield 12, 3) := by decide +kernel
theorem dX4_estimate_4 : decode cX4_estimate 4 = .ok (.iload_n 2, 1) := by decide +kernel
theorem dX4_estimate_5 : decode cX4_estimate 5 = .ok (.invokevirtual 72, 3) := by decide +kernel
theorem dX4_estimate_8 : decode cX4_estimate 8 = .ok (.ifCond .ne 5, 3) := by decide +kernel
theorem dX4_estimate_11 : decode cX4_estimate 11 = .ok (.iconst (-1), 1) := by decide +kernel
theorem dX4_estimate_12 : decode cX4_estimate 12 = .ok (.ireturn, 1) := by decide +kernel
theorem dX4_estimate_13 : decode cX4_estimate 13 = .ok (.iload_n 1, 1) := by decide +kernel
theorem dX4_estimate_14 : decode cX4_estimate 14 = .ok (.invokestatic 94, 3) := by decide +kernel
theorem dX4_estimate_17 : decode cX4_estimate 17 = .ok (.ifCond .eq 10, 3) := by decide +kernel
theorem dX4_estimate_20 : decode cX4_estimate 20 = .ok (.iload_n 3, 1) := by decide +kernel
theorem dX4_estimate_21 : decode cX4_estimate 21 = .ok (.invokestatic 144, 3) := by decide +kernel
theorem dX4_estimate_24 : decode cX4_estimate 24 = .ok (.ifCond .ne 6, 3) := by decide +kernel
theorem dX4_estimate_27 : decode cX4_estimate 27 = .ok (.bipush (-2), 2) := by decide +kernel
theorem dX4_estimate_29 : decode cX4_estimate 29 = .ok (.ireturn, 1) := by decide +kernel
theorem dX4_estimate_30 : decode cX4_estimate 30 = .ok (.aload_n 0, 1) := by decide +kernel
theorem dX4_estimate_31 : decode cX4_estimate 31 = .ok (.getfield 12, 3) := by decide +kernel
theorem dX4_estimate_34 : decode cX4_estimate 34 = .ok (.iload_n 1, 1) := by decide +kernel
theorem dX4_estimate_35 : decode cX4_estimate 35 = .ok (.invokevirtual 107, 3) := by decide +kernel
theorem dX4_estimate_38 : decode cX4_estimate 38 = .ok (.istore 4, 2) := by decide +kernel
theorem dX4_estimate_40 : decode cX4_estimate 40 = .ok (.iload 4, 2) := by decide +kernel
theorem dX4_estimate_42 : decode cX4_estimate 42 = .ok (.iload_n 2, 1) := by decide +kernel
theorem dX4_estimate_43 : decode cX4_estimate 43 = .ok (.invokestatic 173, 3) := by decide +kernel
theorem dX4_estimate_46 : decode cX4_estimate 46 = .ok (.ifCond .ne 6, 3) := by decide +kernel
theorem dX4_estimate_49 : decode cX4_estimate 49 = .ok (.bipush (-3), 2) := by decide +kernel
theorem dX4_estimate_51 : decode cX4_estimate 51 = .ok (.ireturn, 1) := by decide +kernel
theorem dX4_estimate_52 : decode cX4_estimate 52 = .ok (.aload_n 0, 1) := by decide +kernel
theorem dX4_estimate_53 : decode cX4_estimate 53 = .ok (.getfield 27, 3) := by decide +kernel
theorem dX4_estimate_56 : decode cX4_estimate 56 = .ok (.aload_n 0, 1) := by decide +kernel
theorem dX4_estimate_57 : decode cX4_estimate 57 = .ok (.getfield 12, 3) := by decide +kernel
theorem dX4_estimate_60 : decode cX4_estimate 60 = .ok (.iload 4, 2) := by decide +kernel
theorem dX4_estimate_62 : decode cX4_estimate 62 = .ok (.iload_n 2, 1) := by decide +kernel
theorem dX4_estimate_63 : decode cX4_estimate 63 = .ok (.invokestatic 176, 3) := by decide +kernel
theorem dX4_estimate_66 : decode cX4_estimate 66 = .ok (.invokevirtual 113, 3) := by decide +kernel
theorem dX4_estimate_69 : decode cX4_estimate 69 = .ok (.astore 5, 2) := by decide +kernel
theorem dX4_estimate_71 : decode cX4_estimate 71 = .ok (.aload_n 0, 1) := by decide +kernel
theorem dX4_estimate_72 : decode cX4_estimate 72 = .ok (.getfield 27, 3) := by decide +kernel
theorem dX4_estimate_75 : decode cX4_estimate 75 = .ok (.aload_n 0, 1) := by decide +kernel
theorem dX4_estimate_76 : decode cX4_estimate 76 = .ok (.getfield 12, 3) := by decide +kernel
theorem dX4_estimate_79 : decode cX4_estimate 79 = .ok (.iload 4, 2) := by decide +kernel
theorem dX4_estimate_81 : decode cX4_estimate 81 = .ok (.iload_n 2, 1) := by decide +kernel
theorem dX4_estimate_82 : decode cX4_estimate 82 = .ok (.invokestatic 173, 3) := by decide +kernel
theorem dX4_estimate_85 : decode cX4_estimate 85 = .ok (.invokevirtual 113, 3) := by decide +kernel
theorem dX4_estimate_88 : decode cX4_estimate 88 = .ok (.astore 6, 2) := by decide +kernel
theorem dX4_estimate_90 : decode cX4_estimate 90 = .ok (.aload 5, 2) := by decide +kernel
theorem dX4_estimate_92 : decode cX4_estimate 92 = .ok (.getfield 126, 3) := by decide +kernel
theorem dX4_estimate_95 : decode cX4_estimate 95 = .ok (.iload_n 2, 1) := by decide +kernel
theorem dX4_estimate_96 : decode cX4_estimate 96 = .ok (.iaload, 1) := by decide +kernel
theorem dX4_estimate_97 : decode cX4_estimate 97 = .ok (.ifCond .ne 6, 3) := by decide +kernel
theorem dX4_estimate_100 : decode cX4_estimate 100 = .ok (.bipush (-6), 2) := by decide +kernel
theorem dX4_estimate_102 : decode cX4_estimate 102 = .ok (.ireturn, 1) := by decide +kernel
theorem dX4_estimate_103 : decode cX4_estimate 103 = .ok (.iload_n 3, 1) := by decide +kernel
theorem dX4_estimate_104 : decode cX4_estimate 104 = .ok (.aload_n 0, 1) := by decide +kernel
theorem dX4_estimate_105 : decode cX4_estimate 105 = .ok (.iload_n 1, 1) := by decide +kernel
theorem dX4_estimate_106 : decode cX4_estimate 106 = .ok (.iload_n 2, 1) := by decide +kernel
theorem dX4_estimate_107 : decode cX4_estimate 107 = .ok (.aload 5, 2) := by decide +kernel
theorem dX4_estimate_109 : decode cX4_estimate 109 = .ok (.aload 6, 2) := by decide +kernel
theorem dX4_estimate_111 : decode cX4_estimate 111 = .ok (.invokevirtual 183, 3) := by decide +kernel
theorem dX4_estimate_114 : decode cX4_estimate 114 = .ok (.aload 5, 2) := by decide +kernel
theorem dX4_estimate_116 : decode cX4_estimate 116 = .ok (.getfield 126, 3) := by decide +kernel
theorem dX4_estimate_119 : decode cX4_estimate 119 = .ok (.iload_n 2, 1) := by decide +kernel
theorem dX4_estimate_120 : decode cX4_estimate 120 = .ok (.iaload, 1) := by decide +kernel
theorem dX4_estimate_121 : decode cX4_estimate 121 = .ok (.invokestatic 153, 3) := by decide +kernel
theorem dX4_estimate_124 : decode cX4_estimate 124 = .ok (.ireturn, 1) := by decide +kernel
set_option maxRecDepth 20000 in
theorem ggX4_doubt_X4_isDay : GoodIn wsX4_doubt wsX4_isDay := goodIn_r _ [6] (by decide +kernel) (by decide +kernel)
set_option maxRecDepth 20000 in
theorem gX4_doubt_X4_isDay : GoodIn wsX4_doubt (va_wsS RX4 94 yX4_isDay wsX4_isDay) := goodIn_app (goodIn_of _ (by decide +kernel)) ggX4_doubt_X4_isDay
set_option maxRecDepth 20000 in
theorem ggX4_doubt_X1_workingOn : GoodIn wsX4_doubt wsX1_workingOn := goodIn_r _ [11, 12, 13, 14, 15, 16, 10, 17, 18, 19, 5, 20, 89, 90, 91, 92, 93, 94, 95, 96] (by decide +kernel) (by decide +kernel)
set_option maxRecDepth 20000 in
theorem gX4_doubt_X1_workingOn : GoodIn wsX4_doubt (wsV RX4 107 RX1 yX1_workingOn wsX1_workingOn) := goodIn_app (goodIn_of _ (by decide +kernel)) ggX4_doubt_X1_workingOn
set_option maxRecDepth 20000 in
theorem ggX4_doubt_X4_isIn : GoodIn wsX4_doubt wsX4_isIn := goodIn_r _ [23] (by decide +kernel) (by decide +kernel)
set_option maxRecDepth 20000 in
theorem gX4_doubt_X4_isIn : GoodIn wsX4_doubt (va_wsS RX4 187 yX4_isIn wsX4_isIn) := goodIn_app (goodIn_of _ (by decide +kernel)) ggX4_doubt_X4_isIn
set_option maxRecDepth 20000 in
theorem ggX4_doubt_X4_without : GoodIn wsX4_doubt wsX4_without := goodIn_r _ [26] (by decide +kernel) (by decide +kernel)
set_option maxRecDepth 20000 in
theorem gX4_doubt_X4_without : GoodIn wsX4_doubt (va_wsS RX4 173 yX4_without wsX4_without) := goodIn_app (goodIn_of _ (by decide +kernel)) ggX4_doubt_X4_without
set_option maxRecDepth 20000 in
theorem ggX4_doubt_X4_isDoubted : GoodIn wsX4_doubt wsX4_isDoubted := goodIn_r _ [30, 1, 31, 32, 33, 34, 35, 36, 7, 8, 9, 10, 11, 12, 13, 14, 15, 16, 17, 18, 19, 5, 20, 37, 38, 39, 40, 41, 42, 43, 44, 45, 46, 47, 48, 49, 50, 51, 52, 53, 54, 55, 56, 57, 58, 59, 60, 61, 62, 63, 64, 65, 66, 67, 68, 69, 22, 23, 70, 71, 72, 73, 74, 75, 76, 77, 24, 25, 26, 78, 79, 80, 81, 82, 83, 84, 85, 86, 87, 88, 97, 98, 99, 100, 89, 90, 91, 92, 93, 94, 95, 96, 101, 102, 103, 104, 105, 106, 107] (by decide +kernel) (by decide +kernel)
set_option maxRecDepth 20000 in
theorem gX4_doubt_X4_isDoubted : GoodIn wsX4_doubt (wsV RX4 190 RX4 yX4_isDoubted wsX4_isDoubted) := goodIn_app (goodIn_of _ (by decide +kernel)) ggX4_doubt_X4_isDoubted
set_option maxRecDepth 20000 in
theorem ggX4_doubt_X4_with : GoodIn wsX4_doubt wsX4_with := goodIn_r _ [20] (by decide +kernel) (by decide +kernel)
set_option maxRecDepth 20000 in
theorem gX4_doubt_X4_with : GoodIn wsX4_doubt (va_wsS RX4 176 yX4_with wsX4_with) := goodIn_app (goodIn_of _ (by decide +kernel)) ggX4_doubt_X4_with
theorem dX4_doubt_0 : decode cX4_doubt 0 = .ok (.iload_n 1, 1) := by decide +kernel
theorem dX4_doubt_1 : decode cX4_doubt 1 = .ok (.invokestatic 94, 3) := by decide +kernel
theorem dX4_doubt_4 : decode cX4_doubt 4 = .ok (.ifCond .eq 14, 3) := by decide +kernel
theorem dX4_doubt_7 : decode cX4_doubt 7 = .ok (.iload_n 2, 1) := by decide +kernel
theorem dX4_doubt_8 : decode cX4_doubt 8 = .ok (.ifCond .lt 10, 3) := by decide +kernel
theorem dX4_doubt_11 : decode cX4_doubt 11 = .ok (.iload_n 2, 1) := by decide +kernel
theorem dX4_doubt_12 : decode cX4_doubt 12 = .ok (.sipush 9999, 3) := by decide +kernel
theorem dX4_doubt_15 : decode cX4_doubt 15 = .ok (.if_icmp .le 6, 3) := by decide +kernel
theorem dX4_doubt_18 : decode cX4_doubt 18 = .ok (.bipush (-2), 2) := by decide +kernel
theorem dX4_doubt_20 : decode cX4_doubt 20 = .ok (.ireturn, 1) := by decide +kernel
theorem dX4_doubt_21 : decode cX4_doubt 21 = .ok (.aload_n 0, 1) := by decide +kernel
theorem dX4_doubt_22 : decode cX4_doubt 22 = .ok (.getfield 12, 3) := by decide +kernel
theorem dX4_doubt_25 : decode cX4_doubt 25 = .ok (.iload_n 1, 1) := by decide +kernel
theorem dX4_doubt_26 : decode cX4_doubt 26 = .ok (.invokevirtual 107, 3) := by decide +kernel
theorem dX4_doubt_29 : decode cX4_doubt 29 = .ok (.istore_n 3, 1) := by decide +kernel
theorem dX4_doubt_30 : decode cX4_doubt 30 = .ok (.iconst 0, 1) := by decide +kernel
theorem dX4_doubt_31 : decode cX4_doubt 31 = .ok (.istore 4, 2) := by decide +kernel
theorem dX4_doubt_33 : decode cX4_doubt 33 = .ok (.iconst 0, 1) := by decide +kernel
theorem dX4_doubt_34 : decode cX4_doubt 34 = .ok (.istore 5, 2) := by decide +kernel
theorem dX4_doubt_36 : decode cX4_doubt 36 = .ok (.iload 5, 2) := by decide +kernel
theorem dX4_doubt_38 : decode cX4_doubt 38 = .ok (.aload_n 0, 1) := by decide +kernel
theorem dX4_doubt_39 : decode cX4_doubt 39 = .ok (.getfield 12, 3) := by decide +kernel
theorem dX4_doubt_42 : decode cX4_doubt 42 = .ok (.getfield 63, 3) := by decide +kernel
theorem dX4_doubt_45 : decode cX4_doubt 45 = .ok (.if_icmp .ge 47, 3) := by decide +kernel
theorem dX4_doubt_48 : decode cX4_doubt 48 = .ok (.iload_n 3, 1) := by decide +kernel
theorem dX4_doubt_49 : decode cX4_doubt 49 = .ok (.iload 5, 2) := by decide +kernel
theorem dX4_doubt_51 : decode cX4_doubt 51 = .ok (.invokestatic 187, 3) := by decide +kernel
theorem dX4_doubt_54 : decode cX4_doubt 54 = .ok (.ifCond .eq 32, 3) := by decide +kernel
theorem dX4_doubt_57 : decode cX4_doubt 57 = .ok (.iload_n 3, 1) := by decide +kernel
theorem dX4_doubt_58 : decode cX4_doubt 58 = .ok (.iload 5, 2) := by decide +kernel
theorem dX4_doubt_60 : decode cX4_doubt 60 = .ok (.invokestatic 173, 3) := by decide +kernel
theorem dX4_doubt_63 : decode cX4_doubt 63 = .ok (.ifCond .eq 23, 3) := by decide +kernel
theorem dX4_doubt_66 : decode cX4_doubt 66 = .ok (.aload_n 0, 1) := by decide +kernel
theorem dX4_doubt_67 : decode cX4_doubt 67 = .ok (.iload_n 1, 1) := by decide +kernel
theorem dX4_doubt_68 : decode cX4_doubt 68 = .ok (.iload 5, 2) := by decide +kernel
theorem dX4_doubt_70 : decode cX4_doubt 70 = .ok (.iload_n 2, 1) := by decide +kernel
theorem dX4_doubt_71 : decode cX4_doubt 71 = .ok (.invokevirtual 190, 3) := by decide +kernel
theorem dX4_doubt_74 : decode cX4_doubt 74 = .ok (.ifCond .eq 12, 3) := by decide +kernel
theorem dX4_doubt_77 : decode cX4_doubt 77 = .ok (.iload 4, 2) := by decide +kernel
theorem dX4_doubt_79 : decode cX4_doubt 79 = .ok (.iload 5, 2) := by decide +kernel
theorem dX4_doubt_81 : decode cX4_doubt 81 = .ok (.invokestatic 176, 3) := by decide +kernel
theorem dX4_doubt_84 : decode cX4_doubt 84 = .ok (.istore 4, 2) := by decide +kernel
theorem dX4_doubt_86 : decode cX4_doubt 86 = .ok (.iinc 5 1, 3) := by decide +kernel
theorem dX4_doubt_89 : decode cX4_doubt 89 = .ok (.goto (-53), 3) := by decide +kernel
theorem dX4_doubt_92 : decode cX4_doubt 92 = .ok (.iload 4, 2) := by decide +kernel
theorem dX4_doubt_94 : decode cX4_doubt 94 = .ok (.ireturn, 1) := by decide +kernel
theorem dX4_kept_0 : decode cX4_kept 0 = .ok (.iload_n 1, 1) := by decide +kernel
theorem dX4_kept_1 : decode cX4_kept 1 = .ok (.ifCond .lt 14, 3) := by decide +kernel
theorem dX4_kept_4 : decode cX4_kept 4 = .ok (.iload_n 1, 1) := by decide +kernel
theorem dX4_kept_5 : decode cX4_kept 5 = .ok (.aload_n 0, 1) := by decide +kernel
theorem dX4_kept_6 : decode cX4_kept 6 = .ok (.getfield 27, 3) := by decide +kernel
theorem dX4_kept_9 : decode cX4_kept 9 = .ok (.getfield 194, 3) := by decide +kernel
theorem dX4_kept_12 : decode cX4_kept 12 = .ok (.if_icmp .lt 6, 3) := by decide +kernel
theorem dX4_kept_15 : decode cX4_kept 15 = .ok (.bipush (-6), 2) := by decide +kernel
theorem dX4_kept_17 : decode cX4_kept 17 = .ok (.ireturn, 1) := by decide +kernel
theorem dX4_kept_18 : decode cX4_kept 18 = .ok (.aload_n 0, 1) := by decide +kernel
theorem dX4_kept_19 : decode cX4_kept 19 = .ok (.getfield 27, 3) := by decide +kernel
theorem dX4_kept_22 : decode cX4_kept 22 = .ok (.getfield 197, 3) := by decide +kernel
theorem dX4_kept_25 : decode cX4_kept 25 = .ok (.iload_n 1, 1) := by decide +kernel
theorem dX4_kept_26 : decode cX4_kept 26 = .ok (.aaload, 1) := by decide +kernel
theorem dX4_kept_27 : decode cX4_kept 27 = .ok (.getfield 201, 3) := by decide +kernel
theorem dX4_kept_30 : decode cX4_kept 30 = .ok (.ireturn, 1) := by decide +kernel
set_option maxRecDepth 20000 in
theorem ggX4_image_X1_copyFrom : GoodIn wsX4_image wsX1_copyFrom := goodIn_r _ [8, 9, 10, 11, 12, 13, 14, 15, 16, 17, 18, 19, 20, 30, 31, 32, 33, 34, 35, 36, 37] (by decide +kernel) (by decide +kernel)
set_option maxRecDepth 20000 in
theorem gX4_image_X1_copyFrom : GoodIn wsX4_image (wsV RX4 204 RX1 yX1_copyFrom wsX1_copyFrom) := goodIn_app (goodIn_of _ (by decide +kernel)) ggX4_image_X1_copyFrom
set_option maxRecDepth 20000 in
theorem ggX4_image_X4_with : GoodIn wsX4_image wsX4_with := goodIn_r _ [24] (by decide +kernel) (by decide +kernel)
set_option maxRecDepth 20000 in
theorem gX4_image_X4_with : GoodIn wsX4_image (va_wsS RX4 176 yX4_with wsX4_with) := goodIn_app (goodIn_of _ (by decide +kernel)) ggX4_image_X4_with
theorem dX4_image_0 : decode cX4_image 0 = .ok (.iload_n 1, 1) := by decide +kernel
theorem dX4_image_1 : decode cX4_image 1 = .ok (.ifCond .lt 8, 3) := by decide +kernel
theorem dX4_image_4 : decode cX4_image 4 = .ok (.iload_n 1, 1) := by decide +kernel
theorem dX4_image_5 : decode cX4_image 5 = .ok (.iconst 2, 1) := by decide +kernel
theorem dX4_image_6 : decode cX4_image 6 = .ok (.if_icmp .lt 6, 3) := by decide +kernel
theorem dX4_image_9 : decode cX4_image 9 = .ok (.bipush (-2), 2) := by decide +kernel
theorem dX4_image_11 : decode cX4_image 11 = .ok (.ireturn, 1) := by decide +kernel
theorem dX4_image_12 : decode cX4_image 12 = .ok (.aload_n 0, 1) := by decide +kernel
theorem dX4_image_13 : decode cX4_image 13 = .ok (.getfield 16, 3) := by decide +kernel
theorem dX4_image_16 : decode cX4_image 16 = .ok (.iload_n 1, 1) := by decide +kernel
theorem dX4_image_17 : decode cX4_image 17 = .ok (.aaload, 1) := by decide +kernel
theorem dX4_image_18 : decode cX4_image 18 = .ok (.aload_n 0, 1) := by decide +kernel
theorem dX4_image_19 : decode cX4_image 19 = .ok (.getfield 12, 3) := by decide +kernel
theorem dX4_image_22 : decode cX4_image 22 = .ok (.invokevirtual 204, 3) := by decide +kernel
theorem dX4_image_25 : decode cX4_image 25 = .ok (.aload_n 0, 1) := by decide +kernel
theorem dX4_image_26 : decode cX4_image 26 = .ok (.aload_n 0, 1) := by decide +kernel
theorem dX4_image_27 : decode cX4_image 27 = .ok (.getfield 20, 3) := by decide +kernel
theorem dX4_image_30 : decode cX4_image 30 = .ok (.iload_n 1, 1) := by decide +kernel
theorem dX4_image_31 : decode cX4_image 31 = .ok (.invokestatic 176, 3) := by decide +kernel
theorem dX4_image_34 : decode cX4_image 34 = .ok (.putfield 20, 3) := by decide +kernel
theorem dX4_image_37 : decode cX4_image 37 = .ok (.iconst 1, 1) := by decide +kernel
theorem dX4_image_38 : decode cX4_image 38 = .ok (.ireturn, 1) := by decide +kernel
set_option maxRecDepth 20000 in
theorem ggX4_restore_X4_isIn : GoodIn wsX4_restore wsX4_isIn := goodIn_r _ [8] (by decide +kernel) (by decide +kernel)
set_option maxRecDepth 20000 in
theorem gX4_restore_X4_isIn : GoodIn wsX4_restore (va_wsS RX4 187 yX4_isIn wsX4_isIn) := goodIn_app (goodIn_of _ (by decide +kernel)) ggX4_restore_X4_isIn
set_option maxRecDepth 20000 in
theorem ggX4_restore_X1_copyFrom : GoodIn wsX4_restore wsX1_copyFrom := goodIn_r _ [13, 14, 15, 16, 17, 18, 19, 20, 21, 22, 23, 24, 25, 37, 38, 39, 40, 41, 42, 43, 44] (by decide +kernel) (by decide +kernel)
set_option maxRecDepth 20000 in
theorem gX4_restore_X1_copyFrom : GoodIn wsX4_restore (wsV RX4 204 RX1 yX1_copyFrom wsX1_copyFrom) := goodIn_app (goodIn_of _ (by decide +kernel)) ggX4_restore_X1_copyFrom
set_option maxRecDepth 20000 in
theorem ggX4_restore_X3_letAllGo : GoodIn wsX4_restore wsX3_letAllGo := goodIn_r _ [30, 31, 45, 46, 47, 48, 49, 50, 51] (by decide +kernel) (by decide +kernel)
set_option maxRecDepth 20000 in
theorem gX4_restore_X3_letAllGo : GoodIn wsX4_restore (wsV RX4 49 RX3 yX3_letAllGo wsX3_letAllGo) := goodIn_app (goodIn_of _ (by decide +kernel)) ggX4_restore_X3_letAllGo
theorem dX4_restore_0 : decode cX4_restore 0 = .ok (.iload_n 1, 1) := by decide +kernel
theorem dX4_restore_1 : decode cX4_restore 1 = .ok (.ifCond .lt 8, 3) := by decide +kernel
theorem dX4_restore_4 : decode cX4_restore 4 = .ok (.iload_n 1, 1) := by decide +kernel
theorem dX4_restore_5 : decode cX4_restore 5 = .ok (.iconst 2, 1) := by decide +kernel
theorem dX4_restore_6 : decode cX4_restore 6 = .ok (.if_icmp .lt 6, 3) := by decide +kernel
theorem dX4_restore_9 : decode cX4_restore 9 = .ok (.bipush (-2), 2) := by decide +kernel
theorem dX4_restore_11 : decode cX4_restore 11 = .ok (.ireturn, 1) := by decide +kernel
theorem dX4_restore_12 : decode cX4_restore 12 = .ok (.aload_n 0, 1) := by decide +kernel
theorem dX4_restore_13 : decode cX4_restore 13 = .ok (.getfield 20, 3) := by decide +kernel
theorem dX4_restore_16 : decode cX4_restore 16 = .ok (.iload_n 1, 1) := by decide +kernel
theorem dX4_restore_17 : decode cX4_restore 17 = .ok (.invokestatic 187, 3) := by decide +kernel
theorem dX4_restore_20 : decode cX4_restore 20 = .ok (.ifCond .ne 6, 3) := by decide +kernel
theorem dX4_restore_23 : decode cX4_restore 23 = .ok (.bipush (-3), 2) := by decide +kernel
theorem dX4_restore_25 : decode cX4_restore 25 = .ok (.ireturn, 1) := by decide +kernel
theorem dX4_restore_26 : decode cX4_restore 26 = .ok (.aload_n 0, 1) := by decide +kernel
theorem dX4_restore_27 : decode cX4_restore 27 = .ok (.getfield 12, 3) := by decide +kernel
theorem dX4_restore_30 : decode cX4_restore 30 = .ok (.aload_n 0, 1) := by decide +kernel
theorem dX4_restore_31 : decode cX4_restore 31 = .ok (.getfield 16, 3) := by decide +kernel
theorem dX4_restore_34 : decode cX4_restore 34 = .ok (.iload_n 1, 1) := by decide +kernel
theorem dX4_restore_35 : decode cX4_restore 35 = .ok (.aaload, 1) := by decide +kernel
theorem dX4_restore_36 : decode cX4_restore 36 = .ok (.invokevirtual 204, 3) := by decide +kernel
theorem dX4_restore_39 : decode cX4_restore 39 = .ok (.aload_n 0, 1) := by decide +kernel
theorem dX4_restore_40 : decode cX4_restore 40 = .ok (.getfield 27, 3) := by decide +kernel
theorem dX4_restore_43 : decode cX4_restore 43 = .ok (.invokevirtual 49, 3) := by decide +kernel
theorem dX4_restore_46 : decode cX4_restore 46 = .ok (.iconst 1, 1) := by decide +kernel
theorem dX4_restore_47 : decode cX4_restore 47 = .ok (.ireturn, 1) := by decide +kernel
set_option maxRecDepth 20000 in
theorem ggX4_count_X1_rowHasPlots : GoodIn wsX4_count wsX1_rowHasPlots := goodIn_r _ [15, 16, 17, 28, 29, 30, 31, 32, 33, 34, 35] (by decide +kernel) (by decide +kernel)
set_option maxRecDepth 20000 in
theorem gX4_count_X1_rowHasPlots : GoodIn wsX4_count (wsV RX4 208 RX1 yX1_rowHasPlots wsX1_rowHasPlots) := goodIn_app (goodIn_of _ (by decide +kernel)) ggX4_count_X1_rowHasPlots
set_option maxRecDepth 20000 in
theorem ggX4_count_X1_plotCount : GoodIn wsX4_count wsX1_plotCount := goodIn_r _ [21, 17, 16, 22, 12, 13, 14, 15, 28, 29, 30, 31, 32, 33, 34, 35] (by decide +kernel) (by decide +kernel)
set_option maxRecDepth 20000 in
theorem gX4_count_X1_plotCount : GoodIn wsX4_count (wsV RX4 52 RX1 yX1_plotCount wsX1_plotCount) := goodIn_app (goodIn_of _ (by decide +kernel)) ggX4_count_X1_plotCount
theorem dX4_count_0 : decode cX4_count 0 = .ok (.iload_n 1, 1) := by decide +kernel
theorem dX4_count_1 : decode cX4_count 1 = .ok (.bipush 10, 2) := by decide +kernel
theorem dX4_count_3 : decode cX4_count 3 = .ok (.if_icmp .lt 40, 3) := by decide +kernel
theorem dX4_count_6 : decode cX4_count 6 = .ok (.iload_n 1, 1) := by decide +kernel
theorem dX4_count_7 : decode cX4_count 7 = .ok (.bipush 26, 2) := by decide +kernel
theorem dX4_count_9 : decode cX4_count 9 = .ok (.if_icmp .ge 34, 3) := by decide +kernel
theorem dX4_count_12 : decode cX4_count 12 = .ok (.iload_n 1, 1) := by decide +kernel
theorem dX4_count_13 : decode cX4_count 13 = .ok (.bipush 10, 2) := by decide +kernel
theorem dX4_count_15 : decode cX4_count 15 = .ok (.isub, 1) := by decide +kernel
theorem dX4_count_16 : decode cX4_count 16 = .ok (.istore_n 2, 1) := by decide +kernel
theorem dX4_count_17 : decode cX4_count 17 = .ok (.aload_n 0, 1) := by decide +kernel
theorem dX4_count_18 : decode cX4_count 18 = .ok (.getfield 12, 3) := by decide +kernel
theorem dX4_count_21 : decode cX4_count 21 = .ok (.iload_n 2, 1) := by decide +kernel
theorem dX4_count_22 : decode cX4_count 22 = .ok (.invokevirtual 208, 3) := by decide +kernel
theorem dX4_count_25 : decode cX4_count 25 = .ok (.ifCond .eq 15, 3) := by decide +kernel
theorem dX4_count_28 : decode cX4_count 28 = .ok (.aload_n 0, 1) := by decide +kernel
theorem dX4_count_29 : decode cX4_count 29 = .ok (.getfield 12, 3) := by decide +kernel
theorem dX4_count_32 : decode cX4_count 32 = .ok (.getfield 42, 3) := by decide +kernel
theorem dX4_count_35 : decode cX4_count 35 = .ok (.iload_n 2, 1) := by decide +kernel
theorem dX4_count_36 : decode cX4_count 36 = .ok (.iaload, 1) := by decide +kernel
theorem dX4_count_37 : decode cX4_count 37 = .ok (.goto 5, 3) := by decide +kernel
theorem dX4_count_40 : decode cX4_count 40 = .ok (.bipush (-6), 2) := by decide +kernel
theorem dX4_count_42 : decode cX4_count 42 = .ok (.ireturn, 1) := by decide +kernel
theorem dX4_count_43 : decode cX4_count 43 = .ok (.iload_n 1, 1) := by decide +kernel
theorem dX4_count_44 : decode cX4_count 44 = .ok (.bipush 30, 2) := by decide +kernel
theorem dX4_count_46 : decode cX4_count 46 = .ok (.if_icmp .lt 40, 3) := by decide +kernel
theorem dX4_count_49 : decode cX4_count 49 = .ok (.iload_n 1, 1) := by decide +kernel
theorem dX4_count_50 : decode cX4_count 50 = .ok (.bipush 46, 2) := by decide +kernel
theorem dX4_count_52 : decode cX4_count 52 = .ok (.if_icmp .ge 34, 3) := by decide +kernel
theorem dX4_count_55 : decode cX4_count 55 = .ok (.iload_n 1, 1) := by decide +kernel
theorem dX4_count_56 : decode cX4_count 56 = .ok (.bipush 30, 2) := by decide +kernel
theorem dX4_count_58 : decode cX4_count 58 = .ok (.isub, 1) := by decide +kernel
theorem dX4_count_59 : decode cX4_count 59 = .ok (.istore_n 2, 1) := by decide +kernel
theorem dX4_count_60 : decode cX4_count 60 = .ok (.aload_n 0, 1) := by decide +kernel
theorem dX4_count_61 : decode cX4_count 61 = .ok (.getfield 12, 3) := by decide +kernel
theorem dX4_count_64 : decode cX4_count 64 = .ok (.iload_n 2, 1) := by decide +kernel
theorem dX4_count_65 : decode cX4_count 65 = .ok (.invokevirtual 208, 3) := by decide +kernel
theorem dX4_count_68 : decode cX4_count 68 = .ok (.ifCond .eq 15, 3) := by decide +kernel
theorem dX4_count_71 : decode cX4_count 71 = .ok (.aload_n 0, 1) := by decide +kernel
theorem dX4_count_72 : decode cX4_count 72 = .ok (.getfield 12, 3) := by decide +kernel
theorem dX4_count_75 : decode cX4_count 75 = .ok (.getfield 46, 3) := by decide +kernel
theorem dX4_count_78 : decode cX4_count 78 = .ok (.iload_n 2, 1) := by decide +kernel
theorem dX4_count_79 : decode cX4_count 79 = .ok (.iaload, 1) := by decide +kernel
theorem dX4_count_80 : decode cX4_count 80 = .ok (.goto 5, 3) := by decide +kernel
theorem dX4_count_83 : decode cX4_count 83 = .ok (.bipush (-6), 2) := by decide +kernel
theorem dX4_count_85 : decode cX4_count 85 = .ok (.ireturn, 1) := by decide +kernel
theorem dX4_count_86 : decode cX4_count 86 = .ok (.iload_n 1, 1) := by decide +kernel
theorem dX4_count_87 : decode cX4_count 87 = .ok (.tableswitch 94 0 6 #[41, 49, 57, 65, 73, 81, 89], 41) := by decide +kernel
theorem dX4_count_128 : decode cX4_count 128 = .ok (.aload_n 0, 1) := by decide +kernel
theorem dX4_count_129 : decode cX4_count 129 = .ok (.getfield 12, 3) := by decide +kernel
theorem dX4_count_132 : decode cX4_count 132 = .ok (.getfield 63, 3) := by decide +kernel
theorem dX4_count_135 : decode cX4_count 135 = .ok (.ireturn, 1) := by decide +kernel
theorem dX4_count_136 : decode cX4_count 136 = .ok (.aload_n 0, 1) := by decide +kernel
theorem dX4_count_137 : decode cX4_count 137 = .ok (.getfield 12, 3) := by decide +kernel
theorem dX4_count_140 : decode cX4_count 140 = .ok (.invokevirtual 52, 3) := by decide +kernel
theorem dX4_count_143 : decode cX4_count 143 = .ok (.ireturn, 1) := by decide +kernel
theorem dX4_count_144 : decode cX4_count 144 = .ok (.aload_n 0, 1) := by decide +kernel
theorem dX4_count_145 : decode cX4_count 145 = .ok (.getfield 27, 3) := by decide +kernel
theorem dX4_count_148 : decode cX4_count 148 = .ok (.getfield 194, 3) := by decide +kernel
theorem dX4_count_151 : decode cX4_count 151 = .ok (.ireturn, 1) := by decide +kernel
theorem dX4_count_152 : decode cX4_count 152 = .ok (.aload_n 0, 1) := by decide +kernel
theorem dX4_count_153 : decode cX4_count 153 = .ok (.getfield 27, 3) := by decide +kernel
theorem dX4_count_156 : decode cX4_count 156 = .ok (.getfield 211, 3) := by decide +kernel
theorem dX4_count_159 : decode cX4_count 159 = .ok (.ireturn, 1) := by decide +kernel
theorem dX4_count_160 : decode cX4_count 160 = .ok (.aload_n 0, 1) := by decide +kernel
theorem dX4_count_161 : decode cX4_count 161 = .ok (.getfield 27, 3) := by decide +kernel
theorem dX4_count_164 : decode cX4_count 164 = .ok (.getfield 214, 3) := by decide +kernel
theorem dX4_count_167 : decode cX4_count 167 = .ok (.ireturn, 1) := by decide +kernel
theorem dX4_count_168 : decode cX4_count 168 = .ok (.aload_n 0, 1) := by decide +kernel
theorem dX4_count_169 : decode cX4_count 169 = .ok (.getfield 27, 3) := by decide +kernel
theorem dX4_count_172 : decode cX4_count 172 = .ok (.getfield 217, 3) := by decide +kernel
theorem dX4_count_175 : decode cX4_count 175 = .ok (.ireturn, 1) := by decide +kernel
theorem dX4_count_176 : decode cX4_count 176 = .ok (.aload_n 0, 1) := by decide +kernel
theorem dX4_count_177 : decode cX4_count 177 = .ok (.getfield 20, 3) := by decide +kernel
theorem dX4_count_180 : decode cX4_count 180 = .ok (.ireturn, 1) := by decide +kernel
theorem dX4_count_181 : decode cX4_count 181 = .ok (.bipush (-2), 2) := by decide +kernel
theorem dX4_count_183 : decode cX4_count 183 = .ok (.ireturn, 1) := by decide +kernel
theorem dX4_isPlot_0 : decode cX4_isPlot 0 = .ok (.iload_n 0, 1) := by decide +kernel
theorem dX4_isPlot_1 : decode cX4_isPlot 1 = .ok (.ifCond .lt 23, 3) := by decide +kernel
theorem dX4_isPlot_4 : decode cX4_isPlot 4 = .ok (.iload_n 0, 1) := by decide +kernel
theorem dX4_isPlot_5 : decode cX4_isPlot 5 = .ok (.bipush 16, 2) := by decide +kernel
theorem dX4_isPlot_7 : decode cX4_isPlot 7 = .ok (.if_icmp .ge 17, 3) := by decide +kernel
theorem dX4_isPlot_10 : decode cX4_isPlot 10 = .ok (.iload_n 1, 1) := by decide +kernel
theorem dX4_isPlot_11 : decode cX4_isPlot 11 = .ok (.ifCond .lt 13, 3) := by decide +kernel
theorem dX4_isPlot_14 : decode cX4_isPlot 14 = .ok (.iload_n 1, 1) := by decide +kernel
theorem dX4_isPlot_15 : decode cX4_isPlot 15 = .ok (.bipush 16, 2) := by decide +kernel
theorem dX4_isPlot_17 : decode cX4_isPlot 17 = .ok (.if_icmp .ge 7, 3) := by decide +kernel
theorem dX4_isPlot_20 : decode cX4_isPlot 20 = .ok (.iconst 1, 1) := by decide +kernel
theorem dX4_isPlot_21 : decode cX4_isPlot 21 = .ok (.goto 4, 3) := by decide +kernel
theorem dX4_isPlot_24 : decode cX4_isPlot 24 = .ok (.iconst 0, 1) := by decide +kernel
theorem dX4_isPlot_25 : decode cX4_isPlot 25 = .ok (.ireturn, 1) := by decide +kernel
theorem dX4_isPlace_0 : decode cX4_isPlace 0 = .ok (.iload_n 0, 1) := by decide +kernel
theorem dX4_isPlace_1 : decode cX4_isPlace 1 = .ok (.bipush (-20), 2) := by decide +kernel
theorem dX4_isPlace_3 : decode cX4_isPlace 3 = .ok (.if_icmp .lt 25, 3) := by decide +kernel
theorem dX4_isPlace_6 : decode cX4_isPlace 6 = .ok (.iload_n 0, 1) := by decide +kernel
theorem dX4_isPlace_7 : decode cX4_isPlace 7 = .ok (.bipush 35, 2) := by decide +kernel
theorem dX4_isPlace_9 : decode cX4_isPlace 9 = .ok (.if_icmp .gt 19, 3) := by decide +kernel
theorem dX4_isPlace_12 : decode cX4_isPlace 12 = .ok (.iload_n 1, 1) := by decide +kernel
theorem dX4_isPlace_13 : decode cX4_isPlace 13 = .ok (.bipush (-20), 2) := by decide +kernel
theorem dX4_isPlace_15 : decode cX4_isPlace 15 = .ok (.if_icmp .lt 13, 3) := by decide +kernel
theorem dX4_isPlace_18 : decode cX4_isPlace 18 = .ok (.iload_n 1, 1) := by decide +kernel
theorem dX4_isPlace_19 : decode cX4_isPlace 19 = .ok (.bipush 35, 2) := by decide +kernel
theorem dX4_isPlace_21 : decode cX4_isPlace 21 = .ok (.if_icmp .gt 7, 3) := by decide +kernel
theorem dX4_isPlace_24 : decode cX4_isPlace 24 = .ok (.iconst 1, 1) := by decide +kernel
theorem dX4_isPlace_25 : decode cX4_isPlace 25 = .ok (.goto 4, 3) := by decide +kernel
theorem dX4_isPlace_28 : decode cX4_isPlace 28 = .ok (.iconst 0, 1) := by decide +kernel
theorem dX4_isPlace_29 : decode cX4_isPlace 29 = .ok (.ireturn, 1) := by decide +kernel
theorem dX4_isDay_0 : decode cX4_isDay 0 = .ok (.iload_n 0, 1) := by decide +kernel
theorem dX4_isDay_1 : decode cX4_isDay 1 = .ok (.ifCond .lt 13, 3) := by decide +kernel
theorem dX4_isDay_4 : decode cX4_isDay 4 = .ok (.iload_n 0, 1) := by decide +kernel
theorem dX4_isDay_5 : decode cX4_isDay 5 = .ok (.bipush 64, 2) := by decide +kernel
theorem dX4_isDay_7 : decode cX4_isDay 7 = .ok (.if_icmp .ge 7, 3) := by decide +kernel
theorem dX4_isDay_10 : decode cX4_isDay 10 = .ok (.iconst 1, 1) := by decide +kernel
theorem dX4_isDay_11 : decode cX4_isDay 11 = .ok (.goto 4, 3) := by decide +kernel
theorem dX4_isDay_14 : decode cX4_isDay 14 = .ok (.iconst 0, 1) := by decide +kernel
theorem dX4_isDay_15 : decode cX4_isDay 15 = .ok (.ireturn, 1) := by decide +kernel
set_option maxRecDepth 20000 in
theorem ggX4_areDays_X4_isDay : GoodIn wsX4_areDays wsX4_isDay := goodIn_r _ [4] (by decide +kernel) (by decide +kernel)
set_option maxRecDepth 20000 in
theorem gX4_areDays_X4_isDay : GoodIn wsX4_areDays (va_wsS RX4 94 yX4_isDay wsX4_isDay) := goodIn_app (goodIn_of _ (by decide +kernel)) ggX4_areDays_X4_isDay
theorem dX4_areDays_0 : decode cX4_areDays 0 = .ok (.iload_n 0, 1) := by decide +kernel
theorem dX4_areDays_1 : decode cX4_areDays 1 = .ok (.invokestatic 94, 3) := by decide +kernel
theorem dX4_areDays_4 : decode cX4_areDays 4 = .ok (.ifCond .eq 19, 3) := by decide +kernel
theorem dX4_areDays_7 : decode cX4_areDays 7 = .ok (.iload_n 1, 1) := by decide +kernel
theorem dX4_areDays_8 : decode cX4_areDays 8 = .ok (.invokestatic 94, 3) := by decide +kernel
theorem dX4_areDays_11 : decode cX4_areDays 11 = .ok (.ifCond .eq 12, 3) := by decide +kernel
theorem dX4_areDays_14 : decode cX4_areDays 14 = .ok (.iload_n 0, 1) := by decide +kernel
theorem dX4_areDays_15 : decode cX4_areDays 15 = .ok (.iload_n 1, 1) := by decide +kernel
theorem dX4_areDays_16 : decode cX4_areDays 16 = .ok (.if_icmp .gt 7, 3) := by decide +kernel
theorem dX4_areDays_19 : decode cX4_areDays 19 = .ok (.iconst 1, 1) := by decide +kernel
theorem dX4_areDays_20 : decode cX4_areDays 20 = .ok (.goto 4, 3) := by decide +kernel
theorem dX4_areDays_23 : decode cX4_areDays 23 = .ok (.iconst 0, 1) := by decide +kernel
theorem dX4_areDays_24 : decode cX4_areDays 24 = .ok (.ireturn, 1) := by decide +kernel
theorem dX4_isPart_0 : decode cX4_isPart 0 = .ok (.iload_n 0, 1) := by decide +kernel
theorem dX4_isPart_1 : decode cX4_isPart 1 = .ok (.ifCond .eq 8, 3) := by decide +kernel
theorem dX4_isPart_4 : decode cX4_isPart 4 = .ok (.iload_n 0, 1) := by decide +kernel
theorem dX4_isPart_5 : decode cX4_isPart 5 = .ok (.iconst 1, 1) := by decide +kernel
theorem dX4_isPart_6 : decode cX4_isPart 6 = .ok (.if_icmp .ne 7, 3) := by decide +kernel
theorem dX4_isPart_9 : decode cX4_isPart 9 = .ok (.iconst 1, 1) := by decide +kernel
theorem dX4_isPart_10 : decode cX4_isPart 10 = .ok (.goto 4, 3) := by decide +kernel
theorem dX4_isPart_13 : decode cX4_isPart 13 = .ok (.iconst 0, 1) := by decide +kernel
theorem dX4_isPart_14 : decode cX4_isPart 14 = .ok (.ireturn, 1) := by decide +kernel
theorem dX4_isIn_0 : decode cX4_isIn 0 = .ok (.iload_n 0, 1) := by decide +kernel
theorem dX4_isIn_1 : decode cX4_isIn 1 = .ok (.iconst 1, 1) := by decide +kernel
theorem dX4_isIn_2 : decode cX4_isIn 2 = .ok (.iload_n 1, 1) := by decide +kernel
theorem dX4_isIn_3 : decode cX4_isIn 3 = .ok (.ishl, 1) := by decide +kernel
theorem dX4_isIn_4 : decode cX4_isIn 4 = .ok (.iand, 1) := by decide +kernel
theorem dX4_isIn_5 : decode cX4_isIn 5 = .ok (.ifCond .eq 7, 3) := by decide +kernel
theorem dX4_isIn_8 : decode cX4_isIn 8 = .ok (.iconst 1, 1) := by decide +kernel
theorem dX4_isIn_9 : decode cX4_isIn 9 = .ok (.goto 4, 3) := by decide +kernel
theorem dX4_isIn_12 : decode cX4_isIn 12 = .ok (.iconst 0, 1) := by decide +kernel
theorem dX4_isIn_13 : decode cX4_isIn 13 = .ok (.ireturn, 1) := by decide +kernel
theorem dX4_with_0 : decode cX4_with 0 = .ok (.iload_n 0, 1) := by decide +kernel
theorem dX4_with_1 : decode cX4_with 1 = .ok (.iconst 1, 1) := by decide +kernel
theorem dX4_with_2 : decode cX4_with 2 = .ok (.iload_n 1, 1) := by decide +kernel
theorem dX4_with_3 : decode cX4_with 3 = .ok (.ishl, 1) := by decide +kernel
theorem dX4_with_4 : decode cX4_with 4 = .ok (.ior, 1) := by decide +kernel
theorem dX4_with_5 : decode cX4_with 5 = .ok (.ireturn, 1) := by decide +kernel
theorem dX4_without_0 : decode cX4_without 0 = .ok (.iload_n 0, 1) := by decide +kernel
theorem dX4_without_1 : decode cX4_without 1 = .ok (.iconst 1, 1) := by decide +kernel
theorem dX4_without_2 : decode cX4_without 2 = .ok (.iload_n 1, 1) := by decide +kernel
theorem dX4_without_3 : decode cX4_without 3 = .ok (.ishl, 1) := by decide +kernel
theorem dX4_without_4 : decode cX4_without 4 = .ok (.iconst (-1), 1) := by decide +kernel
theorem dX4_without_5 : decode cX4_without 5 = .ok (.ixor, 1) := by decide +kernel
theorem dX4_without_6 : decode cX4_without 6 = .ok (.iand, 1) := by decide +kernel
theorem dX4_without_7 : decode cX4_without 7 = .ok (.ireturn, 1) := by decide +kernel
set_option maxRecDepth 20000 in
theorem ggX4_part_X4_upper : GoodIn wsX4_part wsX4_upper := goodIn_r _ [4, 5, 6, 3, 7] (by decide +kernel) (by decide +kernel)
set_option maxRecDepth 20000 in
theorem gX4_part_X4_upper : GoodIn wsX4_part (va_wsS RX4 129 yX4_upper wsX4_upper) := goodIn_app (goodIn_of _ (by decide +kernel)) ggX4_part_X4_upper
set_option maxRecDepth 20000 in
theorem ggX4_part_X4_lower : GoodIn wsX4_part wsX4_lower := goodIn_r _ [10, 5, 6, 3, 7] (by decide +kernel) (by decide +kernel)
set_option maxRecDepth 20000 in
theorem gX4_part_X4_lower : GoodIn wsX4_part (va_wsS RX4 132 yX4_lower wsX4_lower) := goodIn_app (goodIn_of _ (by decide +kernel)) ggX4_part_X4_lower
theorem dX4_part_0 : decode cX4_part 0 = .ok (.iload_n 0, 1) := by decide +kernel
theorem dX4_part_1 : decode cX4_part 1 = .ok (.ifCond .ne 11, 3) := by decide +kernel
theorem dX4_part_4 : decode cX4_part 4 = .ok (.iload_n 1, 1) := by decide +kernel
theorem dX4_part_5 : decode cX4_part 5 = .ok (.iload_n 2, 1) := by decide +kernel
theorem dX4_part_6 : decode cX4_part 6 = .ok (.invokestatic 129, 3) := by decide +kernel
theorem dX4_part_9 : decode cX4_part 9 = .ok (.goto 8, 3) := by decide +kernel
theorem dX4_part_12 : decode cX4_part 12 = .ok (.iload_n 1, 1) := by decide +kernel
theorem dX4_part_13 : decode cX4_part 13 = .ok (.iload_n 2, 1) := by decide +kernel
theorem dX4_part_14 : decode cX4_part 14 = .ok (.invokestatic 132, 3) := by decide +kernel
theorem dX4_part_17 : decode cX4_part 17 = .ok (.ireturn, 1) := by decide +kernel
set_option maxRecDepth 20000 in
theorem ggX4_upper_X4_commonDivisor : GoodIn wsX4_upper wsX4_commonDivisor := goodIn_r _ [4] (by decide +kernel) (by decide +kernel)
set_option maxRecDepth 20000 in
theorem gX4_upper_X4_commonDivisor : GoodIn wsX4_upper (va_wsS RX4 220 yX4_commonDivisor wsX4_commonDivisor) := goodIn_app (goodIn_of _ (by decide +kernel)) ggX4_upper_X4_commonDivisor
theorem dX4_upper_0 : decode cX4_upper 0 = .ok (.iload_n 0, 1) := by decide +kernel
theorem dX4_upper_1 : decode cX4_upper 1 = .ok (.iload_n 1, 1) := by decide +kernel
theorem dX4_upper_2 : decode cX4_upper 2 = .ok (.invokestatic 220, 3) := by decide +kernel
theorem dX4_upper_5 : decode cX4_upper 5 = .ok (.istore_n 2, 1) := by decide +kernel
theorem dX4_upper_6 : decode cX4_upper 6 = .ok (.iload_n 2, 1) := by decide +kernel
theorem dX4_upper_7 : decode cX4_upper 7 = .ok (.ifCond .ne 7, 3) := by decide +kernel
theorem dX4_upper_10 : decode cX4_upper 10 = .ok (.iconst 0, 1) := by decide +kernel
theorem dX4_upper_11 : decode cX4_upper 11 = .ok (.goto 6, 3) := by decide +kernel
theorem dX4_upper_14 : decode cX4_upper 14 = .ok (.iload_n 0, 1) := by decide +kernel
theorem dX4_upper_15 : decode cX4_upper 15 = .ok (.iload_n 2, 1) := by decide +kernel
theorem dX4_upper_16 : decode cX4_upper 16 = .ok (.idiv, 1) := by decide +kernel
theorem dX4_upper_17 : decode cX4_upper 17 = .ok (.ireturn, 1) := by decide +kernel
set_option maxRecDepth 20000 in
theorem ggX4_lower_X4_commonDivisor : GoodIn wsX4_lower wsX4_commonDivisor := goodIn_r _ [4] (by decide +kernel) (by decide +kernel)
set_option maxRecDepth 20000 in
theorem gX4_lower_X4_commonDivisor : GoodIn wsX4_lower (va_wsS RX4 220 yX4_commonDivisor wsX4_commonDivisor) := goodIn_app (goodIn_of _ (by decide +kernel)) ggX4_lower_X4_commonDivisor
theorem dX4_lower_0 : decode cX4_lower 0 = .ok (.iload_n 0, 1) := by decide +kernel
theorem dX4_lower_1 : decode cX4_lower 1 = .ok (.iload_n 1, 1) := by decide +kernel
theorem dX4_lower_2 : decode cX4_lower 2 = .ok (.invokestatic 220, 3) := by decide +kernel
theorem dX4_lower_5 : decode cX4_lower 5 = .ok (.istore_n 2, 1) := by decide +kernel
theorem dX4_lower_6 : decode cX4_lower 6 = .ok (.iload_n 2, 1) := by decide +kernel
theorem dX4_lower_7 : decode cX4_lower 7 = .ok (.ifCond .ne 7, 3) := by decide +kernel
theorem dX4_lower_10 : decode cX4_lower 10 = .ok (.iconst 1, 1) := by decide +kernel
theorem dX4_lower_11 : decode cX4_lower 11 = .ok (.goto 6, 3) := by decide +kernel
theorem dX4_lower_14 : decode cX4_lower 14 = .ok (.iload_n 1, 1) := by decide +kernel
theorem dX4_lower_15 : decode cX4_lower 15 = .ok (.iload_n 2, 1) := by decide +kernel
theorem dX4_lower_16 : decode cX4_lower 16 = .ok (.idiv, 1) := by decide +kernel
theorem dX4_lower_17 : decode cX4_lower 17 = .ok (.ireturn, 1) := by decide +kernel
theorem dX4_commonDivisor_0 : decode cX4_commonDivisor 0 = .ok (.iload_n 0, 1) := by decide +kernel
theorem dX4_commonDivisor_1 : decode cX4_commonDivisor 1 = .ok (.istore_n 2, 1) := by decide +kernel
theorem dX4_commonDivisor_2 : decode cX4_commonDivisor 2 = .ok (.iload_n 1, 1) := by decide +kernel
theorem dX4_commonDivisor_3 : decode cX4_commonDivisor 3 = .ok (.istore_n 3, 1) := by decide +kernel
theorem dX4_commonDivisor_4 : decode cX4_commonDivisor 4 = .ok (.iconst 0, 1) := by decide +kernel
theorem dX4_commonDivisor_5 : decode cX4_commonDivisor 5 = .ok (.istore 4, 2) := by decide +kernel
theorem dX4_commonDivisor_7 : decode cX4_commonDivisor 7 = .ok (.iload 4, 2) := by decide +kernel
theorem dX4_commonDivisor_9 : decode cX4_commonDivisor 9 = .ok (.bipush 64, 2) := by decide +kernel
theorem dX4_commonDivisor_11 : decode cX4_commonDivisor 11 = .ok (.if_icmp .ge 23, 3) := by decide +kernel
theorem dX4_commonDivisor_14 : decode cX4_commonDivisor 14 = .ok (.iload_n 3, 1) := by decide +kernel
theorem dX4_commonDivisor_15 : decode cX4_commonDivisor 15 = .ok (.ifCond .eq 19, 3) := by decide +kernel
theorem dX4_commonDivisor_18 : decode cX4_commonDivisor 18 = .ok (.iload_n 2, 1) := by decide +kernel
theorem dX4_commonDivisor_19 : decode cX4_commonDivisor 19 = .ok (.iload_n 3, 1) := by decide +kernel
theorem dX4_commonDivisor_20 : decode cX4_commonDivisor 20 = .ok (.irem, 1) := by decide +kernel
theorem dX4_commonDivisor_21 : decode cX4_commonDivisor 21 = .ok (.istore 5, 2) := by decide +kernel
theorem dX4_commonDivisor_23 : decode cX4_commonDivisor 23 = .ok (.iload_n 3, 1) := by decide +kernel
theorem dX4_commonDivisor_24 : decode cX4_commonDivisor 24 = .ok (.istore_n 2, 1) := by decide +kernel
theorem dX4_commonDivisor_25 : decode cX4_commonDivisor 25 = .ok (.iload 5, 2) := by decide +kernel
theorem dX4_commonDivisor_27 : decode cX4_commonDivisor 27 = .ok (.istore_n 3, 1) := by decide +kernel
theorem dX4_commonDivisor_28 : decode cX4_commonDivisor 28 = .ok (.iinc 4 1, 3) := by decide +kernel
theorem dX4_commonDivisor_31 : decode cX4_commonDivisor 31 = .ok (.goto (-24), 3) := by decide +kernel
theorem dX4_commonDivisor_34 : decode cX4_commonDivisor 34 = .ok (.iload_n 2, 1) := by decide +kernel
theorem dX4_commonDivisor_35 : decode cX4_commonDivisor 35 = .ok (.ireturn, 1) := by decide +kernel
set_option maxRecDepth 20000 in
theorem ggX4_cellsOn_X1_workingOn : GoodIn wsX4_cellsOn wsX1_workingOn := goodIn_r _ [8, 9, 10, 11, 12, 13, 7, 14, 15, 16, 17, 18, 73, 74, 75, 76, 77, 78, 79, 80] (by decide +kernel) (by decide +kernel)
set_option maxRecDepth 20000 in
theorem gX4_cellsOn_X1_workingOn : GoodIn wsX4_cellsOn (wsV RX4 107 RX1 yX1_workingOn wsX1_workingOn) := goodIn_app (goodIn_of _ (by decide +kernel)) ggX4_cellsOn_X1_workingOn
set_option maxRecDepth 20000 in
theorem ggX4_cellsOn_X3_lookUp : GoodIn wsX4_cellsOn wsX3_lookUp := goodIn_r _ [23, 24, 25, 26, 27, 28, 29, 30, 31, 32, 22, 33, 34, 35, 36, 37, 38, 39, 40, 41, 42, 43, 44, 45, 46, 47, 48, 49, 50, 51, 17, 52, 53, 54, 55, 56, 57, 58, 59, 60, 66, 67, 68, 69, 70, 71, 72, 81, 82, 83, 84, 73, 74, 75, 76, 77, 78, 79, 80] (by decide +kernel) (by decide +kernel)
set_option maxRecDepth 20000 in
theorem gX4_cellsOn_X3_lookUp : GoodIn wsX4_cellsOn (wsV RX4 113 RX3 yX3_lookUp wsX3_lookUp) := goodIn_app (goodIn_of _ (by decide +kernel)) ggX4_cellsOn_X3_lookUp
theorem dX4_cellsOn_0 : decode cX4_cellsOn 0 = .ok (.aload_n 0, 1) := by decide +kernel
theorem dX4_cellsOn_1 : decode cX4_cellsOn 1 = .ok (.getfield 12, 3) := by decide +kernel
theorem dX4_cellsOn_4 : decode cX4_cellsOn 4 = .ok (.iload_n 1, 1) := by decide +kernel
theorem dX4_cellsOn_5 : decode cX4_cellsOn 5 = .ok (.invokevirtual 107, 3) := by decide +kernel
theorem dX4_cellsOn_8 : decode cX4_cellsOn 8 = .ok (.istore_n 2, 1) := by decide +kernel
theorem dX4_cellsOn_9 : decode cX4_cellsOn 9 = .ok (.iload_n 2, 1) := by decide +kernel
theorem dX4_cellsOn_10 : decode cX4_cellsOn 10 = .ok (.ifCond .ne 13, 3) := by decide +kernel
theorem dX4_cellsOn_13 : decode cX4_cellsOn 13 = .ok (.aload_n 0, 1) := by decide +kernel
theorem dX4_cellsOn_14 : decode cX4_cellsOn 14 = .ok (.getfield 27, 3) := by decide +kernel
theorem dX4_cellsOn_17 : decode cX4_cellsOn 17 = .ok (.getfield 223, 3) := by decide +kernel
theorem dX4_cellsOn_20 : decode cX4_cellsOn 20 = .ok (.goto 15, 3) := by decide +kernel
theorem dX4_cellsOn_23 : decode cX4_cellsOn 23 = .ok (.aload_n 0, 1) := by decide +kernel
theorem dX4_cellsOn_24 : decode cX4_cellsOn 24 = .ok (.getfield 27, 3) := by decide +kernel
theorem dX4_cellsOn_27 : decode cX4_cellsOn 27 = .ok (.aload_n 0, 1) := by decide +kernel
theorem dX4_cellsOn_28 : decode cX4_cellsOn 28 = .ok (.getfield 12, 3) := by decide +kernel
theorem dX4_cellsOn_31 : decode cX4_cellsOn 31 = .ok (.iload_n 2, 1) := by decide +kernel
theorem dX4_cellsOn_32 : decode cX4_cellsOn 32 = .ok (.invokevirtual 113, 3) := by decide +kernel
theorem dX4_cellsOn_35 : decode cX4_cellsOn 35 = .ok (.areturn, 1) := by decide +kernel
set_option maxRecDepth 20000 in
theorem ggX4_hasMean_X1_workingOn : GoodIn wsX4_hasMean wsX1_workingOn := goodIn_r _ [6, 7, 8, 9, 10, 11, 5, 12, 13, 14, 15, 16, 32, 33, 34, 35, 36, 37, 38, 39] (by decide +kernel) (by decide +kernel)
set_option maxRecDepth 20000 in
theorem gX4_hasMean_X1_workingOn : GoodIn wsX4_hasMean (wsV RX4 107 RX1 yX1_workingOn wsX1_workingOn) := goodIn_app (goodIn_of _ (by decide +kernel)) ggX4_hasMean_X1_workingOn
set_option maxRecDepth 20000 in
theorem ggX4_hasMean_X1_plotCount : GoodIn wsX4_hasMean wsX1_plotCount := goodIn_r _ [20, 21, 22, 23, 24, 25, 5, 26, 32, 33, 34, 35, 36, 37, 38, 39] (by decide +kernel) (by decide +kernel)
set_option maxRecDepth 20000 in
theorem gX4_hasMean_X1_plotCount : GoodIn wsX4_hasMean (wsV RX4 52 RX1 yX1_plotCount wsX1_plotCount) := goodIn_app (goodIn_of _ (by decide +kernel)) ggX4_hasMean_X1_plotCount
theorem dX4_hasMean_0 : decode cX4_hasMean 0 = .ok (.aload_n 0, 1) := by decide +kernel
theorem dX4_hasMean_1 : decode cX4_hasMean 1 = .ok (.getfield 12, 3) := by decide +kernel
theorem dX4_hasMean_4 : decode cX4_hasMean 4 = .ok (.iload_n 1, 1) := by decide +kernel
theorem dX4_hasMean_5 : decode cX4_hasMean 5 = .ok (.invokevirtual 107, 3) := by decide +kernel
theorem dX4_hasMean_8 : decode cX4_hasMean 8 = .ok (.ifCond .eq 17, 3) := by decide +kernel
theorem dX4_hasMean_11 : decode cX4_hasMean 11 = .ok (.aload_n 0, 1) := by decide +kernel
theorem dX4_hasMean_12 : decode cX4_hasMean 12 = .ok (.getfield 12, 3) := by decide +kernel
theorem dX4_hasMean_15 : decode cX4_hasMean 15 = .ok (.invokevirtual 52, 3) := by decide +kernel
theorem dX4_hasMean_18 : decode cX4_hasMean 18 = .ok (.ifCond .le 7, 3) := by decide +kernel
theorem dX4_hasMean_21 : decode cX4_hasMean 21 = .ok (.iconst 1, 1) := by decide +kernel
theorem dX4_hasMean_22 : decode cX4_hasMean 22 = .ok (.goto 4, 3) := by decide +kernel
theorem dX4_hasMean_25 : decode cX4_hasMean 25 = .ok (.iconst 0, 1) := by decide +kernel
theorem dX4_hasMean_26 : decode cX4_hasMean 26 = .ok (.ireturn, 1) := by decide +kernel
set_option maxRecDepth 20000 in
theorem ggX4_rainOn_X4_cellsOn : GoodIn wsX4_rainOn wsX4_cellsOn := goodIn_r _ [8, 1, 9, 10, 11, 12, 13, 14, 15, 16, 17, 18, 19, 20, 21, 22, 23, 7, 24, 25, 26, 27, 28, 29, 30, 31, 32, 33, 34, 35, 36, 37, 38, 39, 40, 41, 42, 43, 44, 45, 46, 47, 48, 49, 50, 51, 52, 53, 54, 55, 56, 57, 58, 59, 60, 61, 62, 63, 64, 65, 66, 68, 69, 70, 71, 72, 85, 86, 87, 88, 89, 90, 91, 73, 74, 75, 76, 77, 78, 79, 80, 81, 82, 83, 84] (by decide +kernel) (by decide +kernel)
set_option maxRecDepth 20000 in
theorem gX4_rainOn_X4_cellsOn : GoodIn wsX4_rainOn (wsV RX4 122 RX4 yX4_cellsOn wsX4_cellsOn) := goodIn_app (goodIn_of _ (by decide +kernel)) ggX4_rainOn_X4_cellsOn
set_option maxRecDepth 20000 in
theorem ggX4_rainOn_X1_readingOf : GoodIn wsX4_rainOn wsX1_readingOf := goodIn_r _ [21, 22, 73, 74, 75, 76, 77, 78, 79, 80] (by decide +kernel) (by decide +kernel)
set_option maxRecDepth 20000 in
theorem gX4_rainOn_X1_readingOf : GoodIn wsX4_rainOn (wsV RX4 97 RX1 yX1_readingOf wsX1_readingOf) := goodIn_app (goodIn_of _ (by decide +kernel)) ggX4_rainOn_X1_readingOf
theorem dX4_rainOn_0 : decode cX4_rainOn 0 = .ok (.aload_n 0, 1) := by decide +kernel
theorem dX4_rainOn_1 : decode cX4_rainOn 1 = .ok (.iload_n 1, 1) := by decide +kernel
theorem dX4_rainOn_2 : decode cX4_rainOn 2 = .ok (.invokevirtual 122, 3) := by decide +kernel
theorem dX4_rainOn_5 : decode cX4_rainOn 5 = .ok (.astore_n 2, 1) := by decide +kernel
theorem dX4_rainOn_6 : decode cX4_rainOn 6 = .ok (.iconst 0, 1) := by decide +kernel
theorem dX4_rainOn_7 : decode cX4_rainOn 7 = .ok (.istore_n 3, 1) := by decide +kernel
theorem dX4_rainOn_8 : decode cX4_rainOn 8 = .ok (.iconst 0, 1) := by decide +kernel
theorem dX4_rainOn_9 : decode cX4_rainOn 9 = .ok (.istore 4, 2) := by decide +kernel
theorem dX4_rainOn_11 : decode cX4_rainOn 11 = .ok (.iload 4, 2) := by decide +kernel
theorem dX4_rainOn_13 : decode cX4_rainOn 13 = .ok (.aload_n 0, 1) := by decide +kernel
theorem dX4_rainOn_14 : decode cX4_rainOn 14 = .ok (.getfield 12, 3) := by decide +kernel
theorem dX4_rainOn_17 : decode cX4_rainOn 17 = .ok (.getfield 63, 3) := by decide +kernel
theorem dX4_rainOn_20 : decode cX4_rainOn 20 = .ok (.if_icmp .ge 40, 3) := by decide +kernel
theorem dX4_rainOn_23 : decode cX4_rainOn 23 = .ok (.aload_n 2, 1) := by decide +kernel
theorem dX4_rainOn_24 : decode cX4_rainOn 24 = .ok (.getfield 126, 3) := by decide +kernel
theorem dX4_rainOn_27 : decode cX4_rainOn 27 = .ok (.iload 4, 2) := by decide +kernel
theorem dX4_rainOn_29 : decode cX4_rainOn 29 = .ok (.iaload, 1) := by decide +kernel
theorem dX4_rainOn_30 : decode cX4_rainOn 30 = .ok (.ifCond .le 24, 3) := by decide +kernel
theorem dX4_rainOn_33 : decode cX4_rainOn 33 = .ok (.iload_n 3, 1) := by decide +kernel
theorem dX4_rainOn_34 : decode cX4_rainOn 34 = .ok (.aload_n 2, 1) := by decide +kernel
theorem dX4_rainOn_35 : decode cX4_rainOn 35 = .ok (.getfield 126, 3) := by decide +kernel
theorem dX4_rainOn_38 : decode cX4_rainOn 38 = .ok (.iload 4, 2) := by decide +kernel
theorem dX4_rainOn_40 : decode cX4_rainOn 40 = .ok (.iaload, 1) := by decide +kernel
theorem dX4_rainOn_41 : decode cX4_rainOn 41 = .ok (.aload_n 0, 1) := by decide +kernel
theorem dX4_rainOn_42 : decode cX4_rainOn 42 = .ok (.getfield 12, 3) := by decide +kernel
theorem dX4_rainOn_45 : decode cX4_rainOn 45 = .ok (.iload 4, 2) := by decide +kernel
theorem dX4_rainOn_47 : decode cX4_rainOn 47 = .ok (.iload_n 1, 1) := by decide +kernel
theorem dX4_rainOn_48 : decode cX4_rainOn 48 = .ok (.invokevirtual 97, 3) := by decide +kernel
theorem dX4_rainOn_51 : decode cX4_rainOn 51 = .ok (.imul, 1) := by decide +kernel
theorem dX4_rainOn_52 : decode cX4_rainOn 52 = .ok (.iadd, 1) := by decide +kernel
theorem dX4_rainOn_53 : decode cX4_rainOn 53 = .ok (.istore_n 3, 1) := by decide +kernel
theorem dX4_rainOn_54 : decode cX4_rainOn 54 = .ok (.iinc 4 1, 3) := by decide +kernel
theorem dX4_rainOn_57 : decode cX4_rainOn 57 = .ok (.goto (-46), 3) := by decide +kernel
theorem dX4_rainOn_60 : decode cX4_rainOn 60 = .ok (.iload_n 3, 1) := by decide +kernel
theorem dX4_rainOn_61 : decode cX4_rainOn 61 = .ok (.ireturn, 1) := by decide +kernel
set_option maxRecDepth 20000 in
theorem ggX4_rainOfOthers_X1_readingOf : GoodIn wsX4_rainOfOthers wsX1_readingOf := goodIn_r _ [7, 8, 18, 19, 20, 21, 22, 23, 24, 25] (by decide +kernel) (by decide +kernel)
set_option maxRecDepth 20000 in
theorem gX4_rainOfOthers_X1_readingOf : GoodIn wsX4_rainOfOthers (wsV RX4 97 RX1 yX1_readingOf wsX1_readingOf) := goodIn_app (goodIn_of _ (by decide +kernel)) ggX4_rainOfOthers_X1_readingOf
theorem dX4_rainOfOthers_0 : decode cX4_rainOfOthers 0 = .ok (.iconst 0, 1) := by decide +kernel
theorem dX4_rainOfOthers_1 : decode cX4_rainOfOthers 1 = .ok (.istore 5, 2) := by decide +kernel
theorem dX4_rainOfOthers_3 : decode cX4_rainOfOthers 3 = .ok (.iconst 0, 1) := by decide +kernel
theorem dX4_rainOfOthers_4 : decode cX4_rainOfOthers 4 = .ok (.istore 6, 2) := by decide +kernel
theorem dX4_rainOfOthers_6 : decode cX4_rainOfOthers 6 = .ok (.iload 6, 2) := by decide +kernel
theorem dX4_rainOfOthers_8 : decode cX4_rainOfOthers 8 = .ok (.sipush 256, 3) := by decide +kernel
theorem dX4_rainOfOthers_11 : decode cX4_rainOfOthers 11 = .ok (.if_icmp .ge 51, 3) := by decide +kernel
theorem dX4_rainOfOthers_14 : decode cX4_rainOfOthers 14 = .ok (.aload 4, 2) := by decide +kernel
theorem dX4_rainOfOthers_16 : decode cX4_rainOfOthers 16 = .ok (.getfield 227, 3) := by decide +kernel
theorem dX4_rainOfOthers_19 : decode cX4_rainOfOthers 19 = .ok (.iload 6, 2) := by decide +kernel
theorem dX4_rainOfOthers_21 : decode cX4_rainOfOthers 21 = .ok (.iaload, 1) := by decide +kernel
theorem dX4_rainOfOthers_22 : decode cX4_rainOfOthers 22 = .ok (.istore 7, 2) := by decide +kernel
theorem dX4_rainOfOthers_24 : decode cX4_rainOfOthers 24 = .ok (.aload_n 3, 1) := by decide +kernel
theorem dX4_rainOfOthers_25 : decode cX4_rainOfOthers 25 = .ok (.getfield 227, 3) := by decide +kernel
theorem dX4_rainOfOthers_28 : decode cX4_rainOfOthers 28 = .ok (.iload 6, 2) := by decide +kernel
theorem dX4_rainOfOthers_30 : decode cX4_rainOfOthers 30 = .ok (.iaload, 1) := by decide +kernel
theorem dX4_rainOfOthers_31 : decode cX4_rainOfOthers 31 = .ok (.iload_n 2, 1) := by decide +kernel
theorem dX4_rainOfOthers_32 : decode cX4_rainOfOthers 32 = .ok (.if_icmp .ne 24, 3) := by decide +kernel
theorem dX4_rainOfOthers_35 : decode cX4_rainOfOthers 35 = .ok (.iload 7, 2) := by decide +kernel
theorem dX4_rainOfOthers_37 : decode cX4_rainOfOthers 37 = .ok (.iconst (-1), 1) := by decide +kernel
theorem dX4_rainOfOthers_38 : decode cX4_rainOfOthers 38 = .ok (.if_icmp .eq 18, 3) := by decide +kernel
theorem dX4_rainOfOthers_41 : decode cX4_rainOfOthers 41 = .ok (.iload 5, 2) := by decide +kernel
theorem dX4_rainOfOthers_43 : decode cX4_rainOfOthers 43 = .ok (.aload_n 0, 1) := by decide +kernel
theorem dX4_rainOfOthers_44 : decode cX4_rainOfOthers 44 = .ok (.getfield 12, 3) := by decide +kernel
theorem dX4_rainOfOthers_47 : decode cX4_rainOfOthers 47 = .ok (.iload 7, 2) := by decide +kernel
theorem dX4_rainOfOthers_49 : decode cX4_rainOfOthers 49 = .ok (.iload_n 1, 1) := by decide +kernel
theorem dX4_rainOfOthers_50 : decode cX4_rainOfOthers 50 = .ok (.invokevirtual 97, 3) := by decide +kernel
theorem dX4_rainOfOthers_53 : decode cX4_rainOfOthers 53 = .ok (.iadd, 1) := by decide +kernel
theorem dX4_rainOfOthers_54 : decode cX4_rainOfOthers 54 = .ok (.istore 5, 2) := by decide +kernel
theorem dX4_rainOfOthers_56 : decode cX4_rainOfOthers 56 = .ok (.iinc 6 1, 3) := by decide +kernel
theorem dX4_rainOfOthers_59 : decode cX4_rainOfOthers 59 = .ok (.goto (-53), 3) := by decide +kernel
