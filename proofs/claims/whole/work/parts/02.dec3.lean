theorem dX5_sides_37 : decode cX5_sides 37 = .ok (.iload 5, 2) := by decide +kernel
theorem dX5_sides_39 : decode cX5_sides 39 = .ok (.bipush 16, 2) := by decide +kernel
theorem dX5_sides_41 : decode cX5_sides 41 = .ok (.irem, 1) := by decide +kernel
theorem dX5_sides_42 : decode cX5_sides 42 = .ok (.iload 5, 2) := by decide +kernel
theorem dX5_sides_44 : decode cX5_sides 44 = .ok (.bipush 16, 2) := by decide +kernel
theorem dX5_sides_46 : decode cX5_sides 46 = .ok (.idiv, 1) := by decide +kernel
theorem dX5_sides_47 : decode cX5_sides 47 = .ok (.iload_n 3, 1) := by decide +kernel
theorem dX5_sides_48 : decode cX5_sides 48 = .ok (.invokevirtual 137, 3) := by decide +kernel
theorem dX5_sides_51 : decode cX5_sides 51 = .ok (.goto 4, 3) := by decide +kernel
theorem dX5_sides_54 : decode cX5_sides 54 = .ok (.iconst 0, 1) := by decide +kernel
theorem dX5_sides_55 : decode cX5_sides 55 = .ok (.iadd, 1) := by decide +kernel
theorem dX5_sides_56 : decode cX5_sides 56 = .ok (.istore 4, 2) := by decide +kernel
theorem dX5_sides_58 : decode cX5_sides 58 = .ok (.iinc 5 1, 3) := by decide +kernel
theorem dX5_sides_61 : decode cX5_sides 61 = .ok (.goto (-55), 3) := by decide +kernel
theorem dX5_sides_64 : decode cX5_sides 64 = .ok (.iload 4, 2) := by decide +kernel
theorem dX5_sides_66 : decode cX5_sides 66 = .ok (.ireturn, 1) := by decide +kernel
set_option maxRecDepth 20000 in
theorem ggX5_border_X5_isGauge : GoodIn wsX5_border wsX5_isGauge := goodIn_r _ [5, 6, 7, 8, 4, 9, 63, 64, 65, 66, 67, 68, 69, 70, 71, 72, 73, 74, 75, 76, 77, 78, 79, 80, 81] (by decide +kernel) (by decide +kernel)
set_option maxRecDepth 20000 in
theorem gX5_border_X5_isGauge : GoodIn wsX5_border (wsV RX5 76 RX5 yX5_isGauge wsX5_isGauge) := goodIn_app (goodIn_of _ (by decide +kernel)) ggX5_border_X5_isGauge
set_option maxRecDepth 20000 in
theorem ggX5_border_X5_isDay : GoodIn wsX5_border wsX5_isDay := goodIn_r _ [12, 7, 8, 4, 9] (by decide +kernel) (by decide +kernel)
set_option maxRecDepth 20000 in
theorem gX5_border_X5_isDay : GoodIn wsX5_border (va_wsS RX5 84 yX5_isDay wsX5_isDay) := goodIn_app (goodIn_of _ (by decide +kernel)) ggX5_border_X5_isDay
set_option maxRecDepth 20000 in
theorem ggX5_border_X5_workingOn : GoodIn wsX5_border wsX5_workingOn := goodIn_r _ [16, 6, 17, 18, 63, 64, 65, 66, 67, 68, 69, 70, 71, 72, 73, 74, 75, 76, 77, 78, 79, 80, 81] (by decide +kernel) (by decide +kernel)
set_option maxRecDepth 20000 in
theorem gX5_border_X5_workingOn : GoodIn wsX5_border (wsV RX5 93 RX5 yX5_workingOn wsX5_workingOn) := goodIn_app (goodIn_of _ (by decide +kernel)) ggX5_border_X5_workingOn
set_option maxRecDepth 20000 in
theorem ggX5_border_X5_lookUp : GoodIn wsX5_border wsX5_lookUp := goodIn_r _ [22, 23, 24, 25, 26, 27, 63, 64, 65, 66, 67, 68, 69, 70, 71, 72, 73, 74, 75, 76, 77, 78, 79, 80, 81] (by decide +kernel) (by decide +kernel)
set_option maxRecDepth 20000 in
theorem gX5_border_X5_lookUp : GoodIn wsX5_border (wsV RX5 115 RX5 yX5_lookUp wsX5_lookUp) := goodIn_app (goodIn_of _ (by decide +kernel)) ggX5_border_X5_lookUp
set_option maxRecDepth 20000 in
theorem ggX5_border_X5_sides : GoodIn wsX5_border wsX5_sides := goodIn_r _ [31, 32, 33, 34, 4, 35, 7, 8, 9, 36, 37, 38, 39, 40, 41, 42, 43, 44, 45, 6, 46, 47, 48, 49, 50, 51, 52, 53, 54, 55, 56, 57, 58, 59, 60, 61, 62, 63, 64, 65, 66, 67, 68, 69, 70, 71, 72, 73, 74, 75, 76, 77, 78, 79, 80, 81] (by decide +kernel) (by decide +kernel)
set_option maxRecDepth 20000 in
theorem gX5_border_X5_sides : GoodIn wsX5_border (wsV RX5 141 RX5 yX5_sides wsX5_sides) := goodIn_app (goodIn_of _ (by decide +kernel)) ggX5_border_X5_sides
theorem dX5_border_0 : decode cX5_border 0 = .ok (.aload_n 0, 1) := by decide +kernel
theorem dX5_border_1 : decode cX5_border 1 = .ok (.iload_n 2, 1) := by decide +kernel
theorem dX5_border_2 : decode cX5_border 2 = .ok (.invokevirtual 76, 3) := by decide +kernel
theorem dX5_border_5 : decode cX5_border 5 = .ok (.ifCond .eq 11, 3) := by decide +kernel
theorem dX5_border_8 : decode cX5_border 8 = .ok (.aload_n 0, 1) := by decide +kernel
theorem dX5_border_9 : decode cX5_border 9 = .ok (.iload_n 3, 1) := by decide +kernel
theorem dX5_border_10 : decode cX5_border 10 = .ok (.invokevirtual 76, 3) := by decide +kernel
theorem dX5_border_13 : decode cX5_border 13 = .ok (.ifCond .ne 5, 3) := by decide +kernel
theorem dX5_border_16 : decode cX5_border 16 = .ok (.iconst (-1), 1) := by decide +kernel
theorem dX5_border_17 : decode cX5_border 17 = .ok (.ireturn, 1) := by decide +kernel
theorem dX5_border_18 : decode cX5_border 18 = .ok (.iload_n 1, 1) := by decide +kernel
theorem dX5_border_19 : decode cX5_border 19 = .ok (.invokestatic 84, 3) := by decide +kernel
theorem dX5_border_22 : decode cX5_border 22 = .ok (.ifCond .ne 6, 3) := by decide +kernel
theorem dX5_border_25 : decode cX5_border 25 = .ok (.bipush (-2), 2) := by decide +kernel
theorem dX5_border_27 : decode cX5_border 27 = .ok (.ireturn, 1) := by decide +kernel
theorem dX5_border_28 : decode cX5_border 28 = .ok (.aload_n 0, 1) := by decide +kernel
theorem dX5_border_29 : decode cX5_border 29 = .ok (.iload_n 1, 1) := by decide +kernel
theorem dX5_border_30 : decode cX5_border 30 = .ok (.invokevirtual 93, 3) := by decide +kernel
theorem dX5_border_33 : decode cX5_border 33 = .ok (.istore 4, 2) := by decide +kernel
theorem dX5_border_35 : decode cX5_border 35 = .ok (.aload_n 0, 1) := by decide +kernel
theorem dX5_border_36 : decode cX5_border 36 = .ok (.iload 4, 2) := by decide +kernel
theorem dX5_border_38 : decode cX5_border 38 = .ok (.invokevirtual 115, 3) := by decide +kernel
theorem dX5_border_41 : decode cX5_border 41 = .ok (.aload_n 0, 1) := by decide +kernel
theorem dX5_border_42 : decode cX5_border 42 = .ok (.iload 4, 2) := by decide +kernel
theorem dX5_border_44 : decode cX5_border 44 = .ok (.iload_n 2, 1) := by decide +kernel
theorem dX5_border_45 : decode cX5_border 45 = .ok (.iload_n 2, 1) := by decide +kernel
theorem dX5_border_46 : decode cX5_border 46 = .ok (.iload_n 3, 1) := by decide +kernel
theorem dX5_border_47 : decode cX5_border 47 = .ok (.if_icmp .ne 8, 3) := by decide +kernel
theorem dX5_border_50 : decode cX5_border 50 = .ok (.bipush (-6), 2) := by decide +kernel
theorem dX5_border_52 : decode cX5_border 52 = .ok (.goto 4, 3) := by decide +kernel
theorem dX5_border_55 : decode cX5_border 55 = .ok (.iload_n 3, 1) := by decide +kernel
theorem dX5_border_56 : decode cX5_border 56 = .ok (.invokevirtual 141, 3) := by decide +kernel
theorem dX5_border_59 : decode cX5_border 59 = .ok (.ireturn, 1) := by decide +kernel
set_option maxRecDepth 20000 in
theorem ggX5_neighbours_X5_isGauge : GoodIn wsX5_neighbours wsX5_isGauge := goodIn_r _ [6, 1, 7, 8, 5, 9, 63, 64, 65, 66, 67, 68, 69, 70, 71, 72, 73, 74, 75, 76, 77, 78, 79, 80, 81] (by decide +kernel) (by decide +kernel)
set_option maxRecDepth 20000 in
theorem gX5_neighbours_X5_isGauge : GoodIn wsX5_neighbours (wsV RX5 76 RX5 yX5_isGauge wsX5_isGauge) := goodIn_app (goodIn_of _ (by decide +kernel)) ggX5_neighbours_X5_isGauge
set_option maxRecDepth 20000 in
theorem ggX5_neighbours_X5_isDay : GoodIn wsX5_neighbours wsX5_isDay := goodIn_r _ [12, 7, 8, 5, 9] (by decide +kernel) (by decide +kernel)
set_option maxRecDepth 20000 in
theorem gX5_neighbours_X5_isDay : GoodIn wsX5_neighbours (va_wsS RX5 84 yX5_isDay wsX5_isDay) := goodIn_app (goodIn_of _ (by decide +kernel)) ggX5_neighbours_X5_isDay
set_option maxRecDepth 20000 in
theorem ggX5_neighbours_X5_workingOn : GoodIn wsX5_neighbours wsX5_workingOn := goodIn_r _ [16, 1, 17, 18, 63, 64, 65, 66, 67, 68, 69, 70, 71, 72, 73, 74, 75, 76, 77, 78, 79, 80, 81] (by decide +kernel) (by decide +kernel)
set_option maxRecDepth 20000 in
theorem gX5_neighbours_X5_workingOn : GoodIn wsX5_neighbours (wsV RX5 93 RX5 yX5_workingOn wsX5_workingOn) := goodIn_app (goodIn_of _ (by decide +kernel)) ggX5_neighbours_X5_workingOn
set_option maxRecDepth 20000 in
theorem ggX5_neighbours_X5_lookUp : GoodIn wsX5_neighbours wsX5_lookUp := goodIn_r _ [22, 23, 24, 25, 26, 27, 63, 64, 65, 66, 67, 68, 69, 70, 71, 72, 73, 74, 75, 76, 77, 78, 79, 80, 81] (by decide +kernel) (by decide +kernel)
set_option maxRecDepth 20000 in
theorem gX5_neighbours_X5_lookUp : GoodIn wsX5_neighbours (wsV RX5 115 RX5 yX5_lookUp wsX5_lookUp) := goodIn_app (goodIn_of _ (by decide +kernel)) ggX5_neighbours_X5_lookUp
set_option maxRecDepth 20000 in
theorem ggX5_neighbours_X5_sides : GoodIn wsX5_neighbours wsX5_sides := goodIn_r _ [31, 32, 33, 34, 5, 35, 7, 8, 9, 36, 37, 38, 39, 40, 41, 42, 43, 44, 45, 1, 46, 47, 48, 49, 50, 51, 52, 53, 54, 55, 56, 57, 58, 59, 60, 61, 62, 63, 64, 65, 66, 67, 68, 69, 70, 71, 72, 73, 74, 75, 76, 77, 78, 79, 80, 81] (by decide +kernel) (by decide +kernel)
set_option maxRecDepth 20000 in
theorem gX5_neighbours_X5_sides : GoodIn wsX5_neighbours (wsV RX5 141 RX5 yX5_sides wsX5_sides) := goodIn_app (goodIn_of _ (by decide +kernel)) ggX5_neighbours_X5_sides
theorem dX5_neighbours_0 : decode cX5_neighbours 0 = .ok (.aload_n 0, 1) := by decide +kernel
theorem dX5_neighbours_1 : decode cX5_neighbours 1 = .ok (.iload_n 2, 1) := by decide +kernel
theorem dX5_neighbours_2 : decode cX5_neighbours 2 = .ok (.invokevirtual 76, 3) := by decide +kernel
theorem dX5_neighbours_5 : decode cX5_neighbours 5 = .ok (.ifCond .ne 5, 3) := by decide +kernel
theorem dX5_neighbours_8 : decode cX5_neighbours 8 = .ok (.iconst (-1), 1) := by decide +kernel
theorem dX5_neighbours_9 : decode cX5_neighbours 9 = .ok (.ireturn, 1) := by decide +kernel
theorem dX5_neighbours_10 : decode cX5_neighbours 10 = .ok (.iload_n 1, 1) := by decide +kernel
theorem dX5_neighbours_11 : decode cX5_neighbours 11 = .ok (.invokestatic 84, 3) := by decide +kernel
theorem dX5_neighbours_14 : decode cX5_neighbours 14 = .ok (.ifCond .ne 6, 3) := by decide +kernel
theorem dX5_neighbours_17 : decode cX5_neighbours 17 = .ok (.bipush (-2), 2) := by decide +kernel
theorem dX5_neighbours_19 : decode cX5_neighbours 19 = .ok (.ireturn, 1) := by decide +kernel
theorem dX5_neighbours_20 : decode cX5_neighbours 20 = .ok (.aload_n 0, 1) := by decide +kernel
theorem dX5_neighbours_21 : decode cX5_neighbours 21 = .ok (.iload_n 1, 1) := by decide +kernel
theorem dX5_neighbours_22 : decode cX5_neighbours 22 = .ok (.invokevirtual 93, 3) := by decide +kernel
theorem dX5_neighbours_25 : decode cX5_neighbours 25 = .ok (.istore_n 3, 1) := by decide +kernel
theorem dX5_neighbours_26 : decode cX5_neighbours 26 = .ok (.aload_n 0, 1) := by decide +kernel
theorem dX5_neighbours_27 : decode cX5_neighbours 27 = .ok (.iload_n 3, 1) := by decide +kernel
theorem dX5_neighbours_28 : decode cX5_neighbours 28 = .ok (.invokevirtual 115, 3) := by decide +kernel
theorem dX5_neighbours_31 : decode cX5_neighbours 31 = .ok (.iconst 0, 1) := by decide +kernel
theorem dX5_neighbours_32 : decode cX5_neighbours 32 = .ok (.istore 4, 2) := by decide +kernel
theorem dX5_neighbours_34 : decode cX5_neighbours 34 = .ok (.iconst 0, 1) := by decide +kernel
theorem dX5_neighbours_35 : decode cX5_neighbours 35 = .ok (.istore 5, 2) := by decide +kernel
theorem dX5_neighbours_37 : decode cX5_neighbours 37 = .ok (.iload 5, 2) := by decide +kernel
theorem dX5_neighbours_39 : decode cX5_neighbours 39 = .ok (.aload_n 0, 1) := by decide +kernel
theorem dX5_neighbours_40 : decode cX5_neighbours 40 = .ok (.getfield 53, 3) := by decide +kernel
theorem dX5_neighbours_43 : decode cX5_neighbours 43 = .ok (.if_icmp .ge 39, 3) := by decide +kernel
theorem dX5_neighbours_46 : decode cX5_neighbours 46 = .ok (.iload 4, 2) := by decide +kernel
theorem dX5_neighbours_48 : decode cX5_neighbours 48 = .ok (.iload 5, 2) := by decide +kernel
theorem dX5_neighbours_50 : decode cX5_neighbours 50 = .ok (.iload_n 2, 1) := by decide +kernel
theorem dX5_neighbours_51 : decode cX5_neighbours 51 = .ok (.if_icmp .eq 21, 3) := by decide +kernel
theorem dX5_neighbours_54 : decode cX5_neighbours 54 = .ok (.aload_n 0, 1) := by decide +kernel
theorem dX5_neighbours_55 : decode cX5_neighbours 55 = .ok (.iload_n 3, 1) := by decide +kernel
theorem dX5_neighbours_56 : decode cX5_neighbours 56 = .ok (.iload_n 2, 1) := by decide +kernel
theorem dX5_neighbours_57 : decode cX5_neighbours 57 = .ok (.iload 5, 2) := by decide +kernel
theorem dX5_neighbours_59 : decode cX5_neighbours 59 = .ok (.invokevirtual 141, 3) := by decide +kernel
theorem dX5_neighbours_62 : decode cX5_neighbours 62 = .ok (.ifCond .le 10, 3) := by decide +kernel
theorem dX5_neighbours_65 : decode cX5_neighbours 65 = .ok (.iconst 1, 1) := by decide +kernel
theorem dX5_neighbours_66 : decode cX5_neighbours 66 = .ok (.iload 5, 2) := by decide +kernel
theorem dX5_neighbours_68 : decode cX5_neighbours 68 = .ok (.ishl, 1) := by decide +kernel
theorem dX5_neighbours_69 : decode cX5_neighbours 69 = .ok (.goto 4, 3) := by decide +kernel
theorem dX5_neighbours_72 : decode cX5_neighbours 72 = .ok (.iconst 0, 1) := by decide +kernel
theorem dX5_neighbours_73 : decode cX5_neighbours 73 = .ok (.ior, 1) := by decide +kernel
theorem dX5_neighbours_74 : decode cX5_neighbours 74 = .ok (.istore 4, 2) := by decide +kernel
theorem dX5_neighbours_76 : decode cX5_neighbours 76 = .ok (.iinc 5 1, 3) := by decide +kernel
theorem dX5_neighbours_79 : decode cX5_neighbours 79 = .ok (.goto (-42), 3) := by decide +kernel
theorem dX5_neighbours_82 : decode cX5_neighbours 82 = .ok (.iload 4, 2) := by decide +kernel
theorem dX5_neighbours_84 : decode cX5_neighbours 84 = .ok (.ireturn, 1) := by decide +kernel
set_option maxRecDepth 20000 in
theorem ggX5_hasMean_X5_workingOn : GoodIn wsX5_hasMean wsX5_workingOn := goodIn_r _ [5, 6, 7, 8, 15, 16, 17, 18, 19, 20, 21, 22, 23, 24, 25, 26, 27, 28, 29, 30, 31, 32, 33] (by decide +kernel) (by decide +kernel)
set_option maxRecDepth 20000 in
theorem gX5_hasMean_X5_workingOn : GoodIn wsX5_hasMean (wsV RX5 93 RX5 yX5_workingOn wsX5_workingOn) := goodIn_app (goodIn_of _ (by decide +kernel)) ggX5_hasMean_X5_workingOn
set_option maxRecDepth 20000 in
theorem ggX5_hasMean_X5_plots : GoodIn wsX5_hasMean wsX5_plots := goodIn_r _ [12, 13, 14, 15, 16, 17, 18, 19, 20, 21, 22, 23, 24, 25, 26, 27, 28, 29, 30, 31, 32, 33] (by decide +kernel) (by decide +kernel)
set_option maxRecDepth 20000 in
theorem gX5_hasMean_X5_plots : GoodIn wsX5_hasMean (wsV RX5 64 RX5 yX5_plots wsX5_plots) := goodIn_app (goodIn_of _ (by decide +kernel)) ggX5_hasMean_X5_plots
theorem dX5_hasMean_0 : decode cX5_hasMean 0 = .ok (.aload_n 0, 1) := by decide +kernel
theorem dX5_hasMean_1 : decode cX5_hasMean 1 = .ok (.iload_n 1, 1) := by decide +kernel
theorem dX5_hasMean_2 : decode cX5_hasMean 2 = .ok (.invokevirtual 93, 3) := by decide +kernel
theorem dX5_hasMean_5 : decode cX5_hasMean 5 = .ok (.ifCond .eq 14, 3) := by decide +kernel
theorem dX5_hasMean_8 : decode cX5_hasMean 8 = .ok (.aload_n 0, 1) := by decide +kernel
theorem dX5_hasMean_9 : decode cX5_hasMean 9 = .ok (.invokevirtual 64, 3) := by decide +kernel
theorem dX5_hasMean_12 : decode cX5_hasMean 12 = .ok (.ifCond .le 7, 3) := by decide +kernel
theorem dX5_hasMean_15 : decode cX5_hasMean 15 = .ok (.iconst 1, 1) := by decide +kernel
theorem dX5_hasMean_16 : decode cX5_hasMean 16 = .ok (.goto 4, 3) := by decide +kernel
theorem dX5_hasMean_19 : decode cX5_hasMean 19 = .ok (.iconst 0, 1) := by decide +kernel
theorem dX5_hasMean_20 : decode cX5_hasMean 20 = .ok (.ireturn, 1) := by decide +kernel
set_option maxRecDepth 20000 in
theorem ggX5_water_X5_workingOn : GoodIn wsX5_water wsX5_workingOn := goodIn_r _ [7, 1, 8, 2, 39, 40, 41, 42, 43, 44, 45, 46, 47, 48, 49, 50, 51, 52, 53, 54, 55, 56, 57] (by decide +kernel) (by decide +kernel)
set_option maxRecDepth 20000 in
theorem gX5_water_X5_workingOn : GoodIn wsX5_water (wsV RX5 93 RX5 yX5_workingOn wsX5_workingOn) := goodIn_app (goodIn_of _ (by decide +kernel)) ggX5_water_X5_workingOn
set_option maxRecDepth 20000 in
theorem ggX5_water_X5_has : GoodIn wsX5_water wsX5_has := goodIn_r _ [11] (by decide +kernel) (by decide +kernel)
set_option maxRecDepth 20000 in
theorem gX5_water_X5_has : GoodIn wsX5_water (va_wsS RX5 100 yX5_has wsX5_has) := goodIn_app (goodIn_of _ (by decide +kernel)) ggX5_water_X5_has
set_option maxRecDepth 20000 in
theorem ggX5_water_X5_size : GoodIn wsX5_water wsX5_size := goodIn_r _ [15, 16, 17, 18, 6, 19, 20, 21, 22, 23, 24, 25, 26, 27, 28, 1, 29, 30, 31, 32, 33, 34, 35, 36, 37, 38, 9, 10, 11, 39, 40, 41, 42, 43, 44, 45, 46, 47, 48, 49, 50, 51, 52, 53, 54, 55, 56, 57] (by decide +kernel) (by decide +kernel)
set_option maxRecDepth 20000 in
theorem gX5_water_X5_size : GoodIn wsX5_water (wsV RX5 125 RX5 yX5_size wsX5_size) := goodIn_app (goodIn_of _ (by decide +kernel)) ggX5_water_X5_size
theorem dX5_water_0 : decode cX5_water 0 = .ok (.aload_n 0, 1) := by decide +kernel
theorem dX5_water_1 : decode cX5_water 1 = .ok (.iload_n 1, 1) := by decide +kernel
theorem dX5_water_2 : decode cX5_water 2 = .ok (.invokevirtual 93, 3) := by decide +kernel
theorem dX5_water_5 : decode cX5_water 5 = .ok (.istore_n 2, 1) := by decide +kernel
theorem dX5_water_6 : decode cX5_water 6 = .ok (.iconst 0, 1) := by decide +kernel
theorem dX5_water_7 : decode cX5_water 7 = .ok (.istore_n 3, 1) := by decide +kernel
theorem dX5_water_8 : decode cX5_water 8 = .ok (.iconst 0, 1) := by decide +kernel
theorem dX5_water_9 : decode cX5_water 9 = .ok (.istore 4, 2) := by decide +kernel
theorem dX5_water_11 : decode cX5_water 11 = .ok (.iload 4, 2) := by decide +kernel
theorem dX5_water_13 : decode cX5_water 13 = .ok (.aload_n 0, 1) := by decide +kernel
theorem dX5_water_14 : decode cX5_water 14 = .ok (.getfield 53, 3) := by decide +kernel
theorem dX5_water_17 : decode cX5_water 17 = .ok (.if_icmp .ge 45, 3) := by decide +kernel
theorem dX5_water_20 : decode cX5_water 20 = .ok (.iload_n 3, 1) := by decide +kernel
theorem dX5_water_21 : decode cX5_water 21 = .ok (.iload_n 2, 1) := by decide +kernel
theorem dX5_water_22 : decode cX5_water 22 = .ok (.iload 4, 2) := by decide +kernel
theorem dX5_water_24 : decode cX5_water 24 = .ok (.invokestatic 100, 3) := by decide +kernel
theorem dX5_water_27 : decode cX5_water 27 = .ok (.ifCond .eq 26, 3) := by decide +kernel
theorem dX5_water_30 : decode cX5_water 30 = .ok (.aload_n 0, 1) := by decide +kernel
theorem dX5_water_31 : decode cX5_water 31 = .ok (.iload_n 2, 1) := by decide +kernel
theorem dX5_water_32 : decode cX5_water 32 = .ok (.iload 4, 2) := by decide +kernel
theorem dX5_water_34 : decode cX5_water 34 = .ok (.invokevirtual 125, 3) := by decide +kernel
theorem dX5_water_37 : decode cX5_water 37 = .ok (.aload_n 0, 1) := by decide +kernel
theorem dX5_water_38 : decode cX5_water 38 = .ok (.getfield 29, 3) := by decide +kernel
theorem dX5_water_41 : decode cX5_water 41 = .ok (.bipush 64, 2) := by decide +kernel
theorem dX5_water_43 : decode cX5_water 43 = .ok (.iload 4, 2) := by decide +kernel
theorem dX5_water_45 : decode cX5_water 45 = .ok (.imul, 1) := by decide +kernel
theorem dX5_water_46 : decode cX5_water 46 = .ok (.iload_n 1, 1) := by decide +kernel
theorem dX5_water_47 : decode cX5_water 47 = .ok (.iadd, 1) := by decide +kernel
theorem dX5_water_48 : decode cX5_water 48 = .ok (.iaload, 1) := by decide +kernel
theorem dX5_water_49 : decode cX5_water 49 = .ok (.imul, 1) := by decide +kernel
theorem dX5_water_50 : decode cX5_water 50 = .ok (.goto 4, 3) := by decide +kernel
theorem dX5_water_53 : decode cX5_water 53 = .ok (.iconst 0, 1) := by decide +kernel
theorem dX5_water_54 : decode cX5_water 54 = .ok (.iadd, 1) := by decide +kernel
theorem dX5_water_55 : decode cX5_water 55 = .ok (.istore_n 3, 1) := by decide +kernel
theorem dX5_water_56 : decode cX5_water 56 = .ok (.iinc 4 1, 3) := by decide +kernel
theorem dX5_water_59 : decode cX5_water 59 = .ok (.goto (-48), 3) := by decide +kernel
theorem dX5_water_62 : decode cX5_water 62 = .ok (.iload_n 3, 1) := by decide +kernel
theorem dX5_water_63 : decode cX5_water 63 = .ok (.ireturn, 1) := by decide +kernel
set_option maxRecDepth 20000 in
theorem ggX5_mean_X5_isDay : GoodIn wsX5_mean wsX5_isDay := goodIn_r _ [4, 5, 6, 3, 7] (by decide +kernel) (by decide +kernel)
set_option maxRecDepth 20000 in
theorem gX5_mean_X5_isDay : GoodIn wsX5_mean (va_wsS RX5 84 yX5_isDay wsX5_isDay) := goodIn_app (goodIn_of _ (by decide +kernel)) ggX5_mean_X5_isDay
set_option maxRecDepth 20000 in
theorem ggX5_mean_X5_in : GoodIn wsX5_mean wsX5_in := goodIn_r _ [7] (by decide +kernel) (by decide +kernel)
set_option maxRecDepth 20000 in
theorem gX5_mean_X5_in : GoodIn wsX5_mean (va_wsS RX5 57 yX5_in wsX5_in) := goodIn_app (goodIn_of _ (by decide +kernel)) ggX5_mean_X5_in
set_option maxRecDepth 20000 in
theorem ggX5_mean_X5_hasMean : GoodIn wsX5_mean wsX5_hasMean := goodIn_r _ [11, 12, 13, 14, 3, 15, 16, 17, 18, 19, 20, 21, 22, 23, 24, 69, 70, 71, 72, 73, 74, 75, 76, 77, 78, 79, 80, 81, 82, 83, 84, 85, 86, 87] (by decide +kernel) (by decide +kernel)
set_option maxRecDepth 20000 in
theorem gX5_mean_X5_hasMean : GoodIn wsX5_mean (wsV RX5 144 RX5 yX5_hasMean wsX5_hasMean) := goodIn_app (goodIn_of _ (by decide +kernel)) ggX5_mean_X5_hasMean
set_option maxRecDepth 20000 in
theorem ggX5_mean_X5_workingOn : GoodIn wsX5_mean wsX5_workingOn := goodIn_r _ [15, 16, 17, 18, 69, 70, 71, 72, 73, 74, 75, 76, 77, 78, 79, 80, 81, 82, 83, 84, 85, 86, 87] (by decide +kernel) (by decide +kernel)
set_option maxRecDepth 20000 in
theorem gX5_mean_X5_workingOn : GoodIn wsX5_mean (wsV RX5 93 RX5 yX5_workingOn wsX5_workingOn) := goodIn_app (goodIn_of _ (by decide +kernel)) ggX5_mean_X5_workingOn
set_option maxRecDepth 20000 in
theorem ggX5_mean_X5_lookUp : GoodIn wsX5_mean wsX5_lookUp := goodIn_r _ [28, 29, 30, 31, 32, 33, 69, 70, 71, 72, 73, 74, 75, 76, 77, 78, 79, 80, 81, 82, 83, 84, 85, 86, 87] (by decide +kernel) (by decide +kernel)
set_option maxRecDepth 20000 in
theorem gX5_mean_X5_lookUp : GoodIn wsX5_mean (wsV RX5 115 RX5 yX5_lookUp wsX5_lookUp) := goodIn_app (goodIn_of _ (by decide +kernel)) ggX5_mean_X5_lookUp
set_option maxRecDepth 20000 in
theorem ggX5_mean_X5_water : GoodIn wsX5_mean wsX5_water := goodIn_r _ [37, 16, 18, 12, 13, 14, 3, 15, 17, 38, 39, 40, 41, 42, 43, 44, 45, 46, 47, 48, 23, 24, 5, 6, 7, 49, 50, 51, 52, 53, 54, 55, 56, 57, 58, 59, 60, 61, 62, 69, 70, 71, 72, 73, 74, 75, 76, 77, 78, 79, 80, 81, 82, 83, 84, 85, 86, 87] (by decide +kernel) (by decide +kernel)
set_option maxRecDepth 20000 in
theorem gX5_mean_X5_water : GoodIn wsX5_mean (wsV RX5 147 RX5 yX5_water wsX5_water) := goodIn_app (goodIn_of _ (by decide +kernel)) ggX5_mean_X5_water
set_option maxRecDepth 20000 in
theorem ggX5_mean_X5_plots : GoodIn wsX5_mean wsX5_plots := goodIn_r _ [22, 23, 24, 69, 70, 71, 72, 73, 74, 75, 76, 77, 78, 79, 80, 81, 82, 83, 84, 85, 86, 87] (by decide +kernel) (by decide +kernel)
set_option maxRecDepth 20000 in
theorem gX5_mean_X5_plots : GoodIn wsX5_mean (wsV RX5 64 RX5 yX5_plots wsX5_plots) := goodIn_app (goodIn_of _ (by decide +kernel)) ggX5_mean_X5_plots
set_option maxRecDepth 20000 in
theorem ggX5_mean_X5_part : GoodIn wsX5_mean wsX5_part := goodIn_r _ [65, 66, 67, 3, 68] (by decide +kernel) (by decide +kernel)
set_option maxRecDepth 20000 in
theorem gX5_mean_X5_part : GoodIn wsX5_mean (va_wsS RX5 131 yX5_part wsX5_part) := goodIn_app (goodIn_of _ (by decide +kernel)) ggX5_mean_X5_part
theorem dX5_mean_0 : decode cX5_mean 0 = .ok (.iload_n 1, 1) := by decide +kernel
theorem dX5_mean_1 : decode cX5_mean 1 = .ok (.invokestatic 84, 3) := by decide +kernel
theorem dX5_mean_4 : decode cX5_mean 4 = .ok (.ifCond .eq 12, 3) := by decide +kernel
theorem dX5_mean_7 : decode cX5_mean 7 = .ok (.iload_n 2, 1) := by decide +kernel
theorem dX5_mean_8 : decode cX5_mean 8 = .ok (.iconst 0, 1) := by decide +kernel
theorem dX5_mean_9 : decode cX5_mean 9 = .ok (.iconst 1, 1) := by decide +kernel
theorem dX5_mean_10 : decode cX5_mean 10 = .ok (.invokestatic 57, 3) := by decide +kernel
theorem dX5_mean_13 : decode cX5_mean 13 = .ok (.ifCond .ne 6, 3) := by decide +kernel
theorem dX5_mean_16 : decode cX5_mean 16 = .ok (.bipush (-2), 2) := by decide +kernel
theorem dX5_mean_18 : decode cX5_mean 18 = .ok (.ireturn, 1) := by decide +kernel
theorem dX5_mean_19 : decode cX5_mean 19 = .ok (.aload_n 0, 1) := by decide +kernel
theorem dX5_mean_20 : decode cX5_mean 20 = .ok (.iload_n 1, 1) := by decide +kernel
theorem dX5_mean_21 : decode cX5_mean 21 = .ok (.invokevirtual 144, 3) := by decide +kernel
theorem dX5_mean_24 : decode cX5_mean 24 = .ok (.ifCond .ne 6, 3) := by decide +kernel
theorem dX5_mean_27 : decode cX5_mean 27 = .ok (.bipush (-3), 2) := by decide +kernel
theorem dX5_mean_29 : decode cX5_mean 29 = .ok (.ireturn, 1) := by decide +kernel
theorem dX5_mean_30 : decode cX5_mean 30 = .ok (.aload_n 0, 1) := by decide +kernel
theorem dX5_mean_31 : decode cX5_mean 31 = .ok (.aload_n 0, 1) := by decide +kernel
theorem dX5_mean_32 : decode cX5_mean 32 = .ok (.iload_n 1, 1) := by decide +kernel
theorem dX5_mean_33 : decode cX5_mean 33 = .ok (.invokevirtual 93, 3) := by decide +kernel
theorem dX5_mean_36 : decode cX5_mean 36 = .ok (.invokevirtual 115, 3) := by decide +kernel
theorem dX5_mean_39 : decode cX5_mean 39 = .ok (.aload_n 0, 1) := by decide +kernel
theorem dX5_mean_40 : decode cX5_mean 40 = .ok (.iload_n 1, 1) := by decide +kernel
theorem dX5_mean_41 : decode cX5_mean 41 = .ok (.invokevirtual 147, 3) := by decide +kernel
theorem dX5_mean_44 : decode cX5_mean 44 = .ok (.aload_n 0, 1) := by decide +kernel
theorem dX5_mean_45 : decode cX5_mean 45 = .ok (.invokevirtual 64, 3) := by decide +kernel
theorem dX5_mean_48 : decode cX5_mean 48 = .ok (.iload_n 2, 1) := by decide +kernel
theorem dX5_mean_49 : decode cX5_mean 49 = .ok (.invokestatic 131, 3) := by decide +kernel
theorem dX5_mean_52 : decode cX5_mean 52 = .ok (.ireturn, 1) := by decide +kernel
set_option maxRecDepth 20000 in
theorem ggX5_total_X5_isDay : GoodIn wsX5_total wsX5_isDay := goodIn_r _ [4, 5, 6, 3, 7] (by decide +kernel) (by decide +kernel)
set_option maxRecDepth 20000 in
theorem gX5_total_X5_isDay : GoodIn wsX5_total (va_wsS RX5 84 yX5_isDay wsX5_isDay) := goodIn_app (goodIn_of _ (by decide +kernel)) ggX5_total_X5_isDay
set_option maxRecDepth 20000 in
theorem ggX5_total_X5_in : GoodIn wsX5_total wsX5_in := goodIn_r _ [7] (by decide +kernel) (by decide +kernel)
set_option maxRecDepth 20000 in
theorem gX5_total_X5_in : GoodIn wsX5_total (va_wsS RX5 57 yX5_in wsX5_in) := goodIn_app (goodIn_of _ (by decide +kernel)) ggX5_total_X5_in
set_option maxRecDepth 20000 in
theorem ggX5_total_X5_hasMean : GoodIn wsX5_total wsX5_hasMean := goodIn_r _ [11, 12, 13, 14, 3, 15, 16, 17, 18, 19, 20, 21, 22, 23, 24, 69, 70, 71, 72, 73, 74, 75, 76, 77, 78, 79, 80, 81, 82, 83, 84, 85, 86, 87] (by decide +kernel) (by decide +kernel)
set_option maxRecDepth 20000 in
theorem gX5_total_X5_hasMean : GoodIn wsX5_total (wsV RX5 144 RX5 yX5_hasMean wsX5_hasMean) := goodIn_app (goodIn_of _ (by decide +kernel)) ggX5_total_X5_hasMean
set_option maxRecDepth 20000 in
theorem ggX5_total_X5_workingOn : GoodIn wsX5_total wsX5_workingOn := goodIn_r _ [15, 16, 17, 18, 69, 70, 71, 72, 73, 74, 75, 76, 77, 78, 79, 80, 81, 82, 83, 84, 85, 86, 87] (by decide +kernel) (by decide +kernel)
set_option maxRecDepth 20000 in
theorem gX5_total_X5_workingOn : GoodIn wsX5_total (wsV RX5 93 RX5 yX5_workingOn wsX5_workingOn) := goodIn_app (goodIn_of _ (by decide +kernel)) ggX5_total_X5_workingOn
set_option maxRecDepth 20000 in
theorem ggX5_total_X5_lookUp : GoodIn wsX5_total wsX5_lookUp := goodIn_r _ [28, 29, 30, 31, 32, 33, 69, 70, 71, 72, 73, 74, 75, 76, 77, 78, 79, 80, 81, 82, 83, 84, 85, 86, 87] (by decide +kernel) (by decide +kernel)
set_option maxRecDepth 20000 in
theorem gX5_total_X5_lookUp : GoodIn wsX5_total (wsV RX5 115 RX5 yX5_lookUp wsX5_lookUp) := goodIn_app (goodIn_of _ (by decide +kernel)) ggX5_total_X5_lookUp
set_option maxRecDepth 20000 in
theorem ggX5_total_X5_water : GoodIn wsX5_total wsX5_water := goodIn_r _ [37, 16, 18, 12, 13, 14, 3, 15, 17, 38, 39, 40, 41, 42, 43, 44, 45, 46, 47, 48, 23, 24, 5, 6, 7, 49, 50, 51, 52, 53, 54, 55, 56, 57, 58, 59, 60, 61, 62, 69, 70, 71, 72, 73, 74, 75, 76, 77, 78, 79, 80, 81, 82, 83, 84, 85, 86, 87] (by decide +kernel) (by decide +kernel)
set_option maxRecDepth 20000 in
theorem gX5_total_X5_water : GoodIn wsX5_total (wsV RX5 147 RX5 yX5_water wsX5_water) := goodIn_app (goodIn_of _ (by decide +kernel)) ggX5_total_X5_water
set_option maxRecDepth 20000 in
theorem ggX5_total_X5_plots : GoodIn wsX5_total wsX5_plots := goodIn_r _ [22, 23, 24, 69, 70, 71, 72, 73, 74, 75, 76, 77, 78, 79, 80, 81, 82, 83, 84, 85, 86, 87] (by decide +kernel) (by decide +kernel)
set_option maxRecDepth 20000 in
theorem gX5_total_X5_plots : GoodIn wsX5_total (wsV RX5 64 RX5 yX5_plots wsX5_plots) := goodIn_app (goodIn_of _ (by decide +kernel)) ggX5_total_X5_plots
set_option maxRecDepth 20000 in
theorem ggX5_total_X5_part : GoodIn wsX5_total wsX5_part := goodIn_r _ [65, 66, 67, 3, 68] (by decide +kernel) (by decide +kernel)
set_option maxRecDepth 20000 in
theorem gX5_total_X5_part : GoodIn wsX5_total (va_wsS RX5 131 yX5_part wsX5_part) := goodIn_app (goodIn_of _ (by decide +kernel)) ggX5_total_X5_part
theorem dX5_total_0 : decode cX5_total 0 = .ok (.iload_n 1, 1) := by decide +kernel
theorem dX5_total_1 : decode cX5_total 1 = .ok (.invokestatic 84, 3) := by decide +kernel
theorem dX5_total_4 : decode cX5_total 4 = .ok (.ifCond .eq 24, 3) := by decide +kernel
theorem dX5_total_7 : decode cX5_total 7 = .ok (.iload_n 2, 1) := by decide +kernel
theorem dX5_total_8 : decode cX5_total 8 = .ok (.invokestatic 84, 3) := by decide +kernel
theorem dX5_total_11 : decode cX5_total 11 = .ok (.ifCond .eq 17, 3) := by decide +kernel
theorem dX5_total_14 : decode cX5_total 14 = .ok (.iload_n 1, 1) := by decide +kernel
theorem dX5_total_15 : decode cX5_total 15 = .ok (.iload_n 2, 1) := by decide +kernel
theorem dX5_total_16 : decode cX5_total 16 = .ok (.if_icmp .gt 12, 3) := by decide +kernel
theorem dX5_total_19 : decode cX5_total 19 = .ok (.iload_n 3, 1) := by decide +kernel
theorem dX5_total_20 : decode cX5_total 20 = .ok (.iconst 0, 1) := by decide +kernel
theorem dX5_total_21 : decode cX5_total 21 = .ok (.iconst 2, 1) := by decide +kernel
theorem dX5_total_22 : decode cX5_total 22 = .ok (.invokestatic 57, 3) := by decide +kernel
theorem dX5_total_25 : decode cX5_total 25 = .ok (.ifCond .ne 6, 3) := by decide +kernel
theorem dX5_total_28 : decode cX5_total 28 = .ok (.bipush (-2), 2) := by decide +kernel
theorem dX5_total_30 : decode cX5_total 30 = .ok (.ireturn, 1) := by decide +kernel
theorem dX5_total_31 : decode cX5_total 31 = .ok (.iconst 0, 1) := by decide +kernel
theorem dX5_total_32 : decode cX5_total 32 = .ok (.istore 4, 2) := by decide +kernel
theorem dX5_total_34 : decode cX5_total 34 = .ok (.iconst 0, 1) := by decide +kernel
theorem dX5_total_35 : decode cX5_total 35 = .ok (.istore 5, 2) := by decide +kernel
theorem dX5_total_37 : decode cX5_total 37 = .ok (.iload_n 1, 1) := by decide +kernel
theorem dX5_total_38 : decode cX5_total 38 = .ok (.istore 6, 2) := by decide +kernel
theorem dX5_total_40 : decode cX5_total 40 = .ok (.iload 6, 2) := by decide +kernel
theorem dX5_total_42 : decode cX5_total 42 = .ok (.iload_n 2, 1) := by decide +kernel
theorem dX5_total_43 : decode cX5_total 43 = .ok (.if_icmp .gt 42, 3) := by decide +kernel
theorem dX5_total_46 : decode cX5_total 46 = .ok (.aload_n 0, 1) := by decide +kernel
theorem dX5_total_47 : decode cX5_total 47 = .ok (.iload 6, 2) := by decide +kernel
theorem dX5_total_49 : decode cX5_total 49 = .ok (.invokevirtual 144, 3) := by decide +kernel
theorem dX5_total_52 : decode cX5_total 52 = .ok (.ifCond .eq 27, 3) := by decide +kernel
theorem dX5_total_55 : decode cX5_total 55 = .ok (.aload_n 0, 1) := by decide +kernel
theorem dX5_total_56 : decode cX5_total 56 = .ok (.aload_n 0, 1) := by decide +kernel
theorem dX5_total_57 : decode cX5_total 57 = .ok (.iload 6, 2) := by decide +kernel
theorem dX5_total_59 : decode cX5_total 59 = .ok (.invokevirtual 93, 3) := by decide +kernel
theorem dX5_total_62 : decode cX5_total 62 = .ok (.invokevirtual 115, 3) := by decide +kernel
theorem dX5_total_65 : decode cX5_total 65 = .ok (.iload 4, 2) := by decide +kernel
theorem dX5_total_67 : decode cX5_total 67 = .ok (.aload_n 0, 1) := by decide +kernel
theorem dX5_total_68 : decode cX5_total 68 = .ok (.iload 6, 2) := by decide +kernel
theorem dX5_total_70 : decode cX5_total 70 = .ok (.invokevirtual 147, 3) := by decide +kernel
theorem dX5_total_73 : decode cX5_total 73 = .ok (.iadd, 1) := by decide +kernel
theorem dX5_total_74 : decode cX5_total 74 = .ok (.istore 4, 2) := by decide +kernel
theorem dX5_total_76 : decode cX5_total 76 = .ok (.iinc 5 1, 3) := by decide +kernel
theorem dX5_total_79 : decode cX5_total 79 = .ok (.iinc 6 1, 3) := by decide +kernel
theorem dX5_total_82 : decode cX5_total 82 = .ok (.goto (-42), 3) := by decide +kernel
theorem dX5_total_85 : decode cX5_total 85 = .ok (.iload_n 3, 1) := by decide +kernel
theorem dX5_total_86 : decode cX5_total 86 = .ok (.iconst 2, 1) := by decide +kernel
theorem dX5_total_87 : decode cX5_total 87 = .ok (.if_icmp .ne 6, 3) := by decide +kernel
theorem dX5_total_90 : decode cX5_total 90 = .ok (.iload 5, 2) := by decide +kernel
theorem dX5_total_92 : decode cX5_total 92 = .ok (.ireturn, 1) := by decide +kernel
theorem dX5_total_93 : decode cX5_total 93 = .ok (.iload 5, 2) := by decide +kernel
theorem dX5_total_95 : decode cX5_total 95 = .ok (.ifCond .ne 7, 3) := by decide +kernel
theorem dX5_total_98 : decode cX5_total 98 = .ok (.iload_n 3, 1) := by decide +kernel
theorem dX5_total_99 : decode cX5_total 99 = .ok (.goto 13, 3) := by decide +kernel
theorem dX5_total_102 : decode cX5_total 102 = .ok (.iload 4, 2) := by decide +kernel
theorem dX5_total_104 : decode cX5_total 104 = .ok (.aload_n 0, 1) := by decide +kernel
theorem dX5_total_105 : decode cX5_total 105 = .ok (.invokevirtual 64, 3) := by decide +kernel
theorem dX5_total_108 : decode cX5_total 108 = .ok (.iload_n 3, 1) := by decide +kernel
theorem dX5_total_109 : decode cX5_total 109 = .ok (.invokestatic 131, 3) := by decide +kernel
theorem dX5_total_112 : decode cX5_total 112 = .ok (.ireturn, 1) := by decide +kernel
set_option maxRecDepth 20000 in
theorem ggX5_spread_X5_isDay : GoodIn wsX5_spread wsX5_isDay := goodIn_r _ [5, 6, 7, 4, 8] (by decide +kernel) (by decide +kernel)
set_option maxRecDepth 20000 in
theorem gX5_spread_X5_isDay : GoodIn wsX5_spread (va_wsS RX5 84 yX5_isDay wsX5_isDay) := goodIn_app (goodIn_of _ (by decide +kernel)) ggX5_spread_X5_isDay
set_option maxRecDepth 20000 in
theorem ggX5_spread_X5_workingOn : GoodIn wsX5_spread wsX5_workingOn := goodIn_r _ [12, 1, 13, 14, 51, 52, 53, 54, 55, 56, 57, 58, 59, 60, 61, 62, 63, 64, 65, 66, 67, 68, 69] (by decide +kernel) (by decide +kernel)
set_option maxRecDepth 20000 in
theorem gX5_spread_X5_workingOn : GoodIn wsX5_spread (wsV RX5 93 RX5 yX5_workingOn wsX5_workingOn) := goodIn_app (goodIn_of _ (by decide +kernel)) ggX5_spread_X5_workingOn
set_option maxRecDepth 20000 in
theorem ggX5_spread_X5_lookUp : GoodIn wsX5_spread wsX5_lookUp := goodIn_r _ [18, 19, 20, 21, 22, 23, 51, 52, 53, 54, 55, 56, 57, 58, 59, 60, 61, 62, 63, 64, 65, 66, 67, 68, 69] (by decide +kernel) (by decide +kernel)
set_option maxRecDepth 20000 in
theorem gX5_spread_X5_lookUp : GoodIn wsX5_spread (wsV RX5 115 RX5 yX5_lookUp wsX5_lookUp) := goodIn_app (goodIn_of _ (by decide +kernel)) ggX5_spread_X5_lookUp
set_option maxRecDepth 20000 in
theorem ggX5_spread_X5_farOf : GoodIn wsX5_spread wsX5_farOf := goodIn_r _ [27, 28, 29, 30, 4, 31, 32, 33, 6, 7, 8, 34, 35, 36, 37, 1, 38, 39, 40, 41, 42, 43, 44, 45, 46, 47, 48, 49, 50, 51, 52, 53, 54, 55, 56, 57, 58, 59, 60, 61, 62, 63, 64, 65, 66, 67, 68, 69] (by decide +kernel) (by decide +kernel)
set_option maxRecDepth 20000 in
theorem gX5_spread_X5_farOf : GoodIn wsX5_spread (wsV RX5 128 RX5 yX5_farOf wsX5_farOf) := goodIn_app (goodIn_of _ (by decide +kernel)) ggX5_spread_X5_farOf
theorem dX5_spread_0 : decode cX5_spread 0 = .ok (.iload_n 1, 1) := by decide +kernel
theorem dX5_spread_1 : decode cX5_spread 1 = .ok (.invokestatic 84, 3) := by decide +kernel
theorem dX5_spread_4 : decode cX5_spread 4 = .ok (.ifCond .ne 6, 3) := by decide +kernel
theorem dX5_spread_7 : decode cX5_spread 7 = .ok (.bipush (-2), 2) := by decide +kernel
theorem dX5_spread_9 : decode cX5_spread 9 = .ok (.ireturn, 1) := by decide +kernel
theorem dX5_spread_10 : decode cX5_spread 10 = .ok (.aload_n 0, 1) := by decide +kernel
theorem dX5_spread_11 : decode cX5_spread 11 = .ok (.iload_n 1, 1) := by decide +kernel
theorem dX5_spread_12 : decode cX5_spread 12 = .ok (.invokevirtual 93, 3) := by decide +kernel
theorem dX5_spread_15 : decode cX5_spread 15 = .ok (.istore_n 2, 1) := by decide +kernel
theorem dX5_spread_16 : decode cX5_spread 16 = .ok (.iload_n 2, 1) := by decide +kernel
theorem dX5_spread_17 : decode cX5_spread 17 = .ok (.ifCond .ne 6, 3) := by decide +kernel
theorem dX5_spread_20 : decode cX5_spread 20 = .ok (.bipush (-6), 2) := by decide +kernel
theorem dX5_spread_22 : decode cX5_spread 22 = .ok (.ireturn, 1) := by decide +kernel
theorem dX5_spread_23 : decode cX5_spread 23 = .ok (.aload_n 0, 1) := by decide +kernel
theorem dX5_spread_24 : decode cX5_spread 24 = .ok (.iload_n 2, 1) := by decide +kernel
theorem dX5_spread_25 : decode cX5_spread 25 = .ok (.invokevirtual 115, 3) := by decide +kernel
theorem dX5_spread_28 : decode cX5_spread 28 = .ok (.iconst 0, 1) := by decide +kernel
theorem dX5_spread_29 : decode cX5_spread 29 = .ok (.istore_n 3, 1) := by decide +kernel
theorem dX5_spread_30 : decode cX5_spread 30 = .ok (.iconst 0, 1) := by decide +kernel
theorem dX5_spread_31 : decode cX5_spread 31 = .ok (.istore 4, 2) := by decide +kernel
theorem dX5_spread_33 : decode cX5_spread 33 = .ok (.iload 4, 2) := by decide +kernel
theorem dX5_spread_35 : decode cX5_spread 35 = .ok (.aload_n 0, 1) := by decide +kernel
theorem dX5_spread_36 : decode cX5_spread 36 = .ok (.getfield 53, 3) := by decide +kernel
theorem dX5_spread_39 : decode cX5_spread 39 = .ok (.if_icmp .ge 19, 3) := by decide +kernel
theorem dX5_spread_42 : decode cX5_spread 42 = .ok (.iload_n 3, 1) := by decide +kernel
theorem dX5_spread_43 : decode cX5_spread 43 = .ok (.aload_n 0, 1) := by decide +kernel
theorem dX5_spread_44 : decode cX5_spread 44 = .ok (.iload_n 2, 1) := by decide +kernel
theorem dX5_spread_45 : decode cX5_spread 45 = .ok (.iload 4, 2) := by decide +kernel
theorem dX5_spread_47 : decode cX5_spread 47 = .ok (.invokevirtual 128, 3) := by decide +kernel
theorem dX5_spread_50 : decode cX5_spread 50 = .ok (.iadd, 1) := by decide +kernel
theorem dX5_spread_51 : decode cX5_spread 51 = .ok (.istore_n 3, 1) := by decide +kernel
theorem dX5_spread_52 : decode cX5_spread 52 = .ok (.iinc 4 1, 3) := by decide +kernel
theorem dX5_spread_55 : decode cX5_spread 55 = .ok (.goto (-22), 3) := by decide +kernel
theorem dX5_spread_58 : decode cX5_spread 58 = .ok (.iload_n 3, 1) := by decide +kernel
theorem dX5_spread_59 : decode cX5_spread 59 = .ok (.ireturn, 1) := by decide +kernel
set_option maxRecDepth 20000 in
theorem ggX5_spreadWith_X5_isPlot : GoodIn wsX5_spreadWith wsX5_isPlot := goodIn_r _ [6, 7, 8, 9, 10, 5, 11, 29, 30, 31, 32, 33, 34, 35, 36, 37, 38, 39, 40, 41, 42, 43, 44, 45, 46, 47] (by decide +kernel) (by decide +kernel)
set_option maxRecDepth 20000 in
theorem gX5_spreadWith_X5_isPlot : GoodIn wsX5_spreadWith (wsV RX5 112 RX5 yX5_isPlot wsX5_isPlot) := goodIn_app (goodIn_of _ (by decide +kernel)) ggX5_spreadWith_X5_isPlot
set_option maxRecDepth 20000 in
theorem ggX5_spreadWith_X5_ownerOf : GoodIn wsX5_spreadWith wsX5_ownerOf := goodIn_r _ [15, 16, 1, 17, 18, 19, 5, 20, 21, 22, 23, 24, 25, 26, 27, 28, 29, 30, 31, 32, 33, 34, 35, 36, 37, 38, 39, 40, 41, 42, 43, 44, 45, 46, 47] (by decide +kernel) (by decide +kernel)
set_option maxRecDepth 20000 in
theorem gX5_spreadWith_X5_ownerOf : GoodIn wsX5_spreadWith (wsV RX5 119 RX5 yX5_ownerOf wsX5_ownerOf) := goodIn_app (goodIn_of _ (by decide +kernel)) ggX5_spreadWith_X5_ownerOf
set_option maxRecDepth 20000 in
theorem ggX5_spreadWith_X5_square : GoodIn wsX5_spreadWith wsX5_square := goodIn_r _ [25] (by decide +kernel) (by decide +kernel)
set_option maxRecDepth 20000 in
theorem gX5_spreadWith_X5_square : GoodIn wsX5_spreadWith (va_wsS RX5 80 yX5_square wsX5_square) := goodIn_app (goodIn_of _ (by decide +kernel)) ggX5_spreadWith_X5_square
set_option maxRecDepth 20000 in
theorem ggX5_spreadWith_X5_far : GoodIn wsX5_spreadWith wsX5_far := goodIn_r _ [20, 21, 22, 23, 24, 5, 25, 29, 30, 31, 32, 33, 34, 35, 36, 37, 38, 39, 40, 41, 42, 43, 44, 45, 46, 47] (by decide +kernel) (by decide +kernel)
set_option maxRecDepth 20000 in
theorem gX5_spreadWith_X5_far : GoodIn wsX5_spreadWith (wsV RX5 96 RX5 yX5_far wsX5_far) := goodIn_app (goodIn_of _ (by decide +kernel)) ggX5_spreadWith_X5_far
theorem dX5_spreadWith_0 : decode cX5_spreadWith 0 = .ok (.iconst 0, 1) := by decide +kernel
theorem dX5_spreadWith_1 : decode cX5_spreadWith 1 = .ok (.istore 4, 2) := by decide +kernel
theorem dX5_spreadWith_3 : decode cX5_spreadWith 3 = .ok (.iconst 0, 1) := by decide +kernel
theorem dX5_spreadWith_4 : decode cX5_spreadWith 4 = .ok (.istore 5, 2) := by decide +kernel
theorem dX5_spreadWith_6 : decode cX5_spreadWith 6 = .ok (.iload 5, 2) := by decide +kernel
theorem dX5_spreadWith_8 : decode cX5_spreadWith 8 = .ok (.sipush 256, 3) := by decide +kernel
theorem dX5_spreadWith_11 : decode cX5_spreadWith 11 = .ok (.if_icmp .ge 110, 3) := by decide +kernel
theorem dX5_spreadWith_14 : decode cX5_spreadWith 14 = .ok (.iload 5, 2) := by decide +kernel
theorem dX5_spreadWith_16 : decode cX5_spreadWith 16 = .ok (.bipush 16, 2) := by decide +kernel
theorem dX5_spreadWith_18 : decode cX5_spreadWith 18 = .ok (.irem, 1) := by decide +kernel
theorem dX5_spreadWith_19 : decode cX5_spreadWith 19 = .ok (.istore 6, 2) := by decide +kernel
theorem dX5_spreadWith_21 : decode cX5_spreadWith 21 = .ok (.iload 5, 2) := by decide +kernel
theorem dX5_spreadWith_23 : decode cX5_spreadWith 23 = .ok (.bipush 16, 2) := by decide +kernel
theorem dX5_spreadWith_25 : decode cX5_spreadWith 25 = .ok (.idiv, 1) := by decide +kernel
theorem dX5_spreadWith_26 : decode cX5_spreadWith 26 = .ok (.istore 7, 2) := by decide +kernel
theorem dX5_spreadWith_28 : decode cX5_spreadWith 28 = .ok (.aload_n 0, 1) := by decide +kernel
theorem dX5_spreadWith_29 : decode cX5_spreadWith 29 = .ok (.iload 6, 2) := by decide +kernel
theorem dX5_spreadWith_31 : decode cX5_spreadWith 31 = .ok (.iload 7, 2) := by decide +kernel
theorem dX5_spreadWith_33 : decode cX5_spreadWith 33 = .ok (.invokevirtual 112, 3) := by decide +kernel
theorem dX5_spreadWith_36 : decode cX5_spreadWith 36 = .ok (.ifCond .eq 79, 3) := by decide +kernel
theorem dX5_spreadWith_39 : decode cX5_spreadWith 39 = .ok (.aload_n 0, 1) := by decide +kernel
theorem dX5_spreadWith_40 : decode cX5_spreadWith 40 = .ok (.iload_n 1, 1) := by decide +kernel
theorem dX5_spreadWith_41 : decode cX5_spreadWith 41 = .ok (.iload 6, 2) := by decide +kernel
theorem dX5_spreadWith_43 : decode cX5_spreadWith 43 = .ok (.iload 7, 2) := by decide +kernel
theorem dX5_spreadWith_45 : decode cX5_spreadWith 45 = .ok (.invokevirtual 119, 3) := by decide +kernel
theorem dX5_spreadWith_48 : decode cX5_spreadWith 48 = .ok (.istore 8, 2) := by decide +kernel
theorem dX5_spreadWith_50 : decode cX5_spreadWith 50 = .ok (.iload 6, 2) := by decide +kernel
theorem dX5_spreadWith_52 : decode cX5_spreadWith 52 = .ok (.iload_n 2, 1) := by decide +kernel
theorem dX5_spreadWith_53 : decode cX5_spreadWith 53 = .ok (.isub, 1) := by decide +kernel
theorem dX5_spreadWith_54 : decode cX5_spreadWith 54 = .ok (.invokestatic 80, 3) := by decide +kernel
theorem dX5_spreadWith_57 : decode cX5_spreadWith 57 = .ok (.iload 7, 2) := by decide +kernel
theorem dX5_spreadWith_59 : decode cX5_spreadWith 59 = .ok (.iload_n 3, 1) := by decide +kernel
theorem dX5_spreadWith_60 : decode cX5_spreadWith 60 = .ok (.isub, 1) := by decide +kernel
theorem dX5_spreadWith_61 : decode cX5_spreadWith 61 = .ok (.invokestatic 80, 3) := by decide +kernel
theorem dX5_spreadWith_64 : decode cX5_spreadWith 64 = .ok (.iadd, 1) := by decide +kernel
theorem dX5_spreadWith_65 : decode cX5_spreadWith 65 = .ok (.istore 9, 2) := by decide +kernel
theorem dX5_spreadWith_67 : decode cX5_spreadWith 67 = .ok (.iload 4, 2) := by decide +kernel
theorem dX5_spreadWith_69 : decode cX5_spreadWith 69 = .ok (.iload 8, 2) := by decide +kernel
theorem dX5_spreadWith_71 : decode cX5_spreadWith 71 = .ok (.ifCond .lt 26, 3) := by decide +kernel
theorem dX5_spreadWith_74 : decode cX5_spreadWith 74 = .ok (.iload 9, 2) := by decide +kernel
theorem dX5_spreadWith_76 : decode cX5_spreadWith 76 = .ok (.aload_n 0, 1) := by decide +kernel
theorem dX5_spreadWith_77 : decode cX5_spreadWith 77 = .ok (.iload 8, 2) := by decide +kernel
theorem dX5_spreadWith_79 : decode cX5_spreadWith 79 = .ok (.iload 6, 2) := by decide +kernel
theorem dX5_spreadWith_81 : decode cX5_spreadWith 81 = .ok (.iload 7, 2) := by decide +kernel
theorem dX5_spreadWith_83 : decode cX5_spreadWith 83 = .ok (.invokevirtual 96, 3) := by decide +kernel
theorem dX5_spreadWith_86 : decode cX5_spreadWith 86 = .ok (.aload_n 0, 1) := by decide +kernel
theorem dX5_spreadWith_87 : decode cX5_spreadWith 87 = .ok (.getfield 22, 3) := by decide +kernel
theorem dX5_spreadWith_90 : decode cX5_spreadWith 90 = .ok (.iload 8, 2) := by decide +kernel
theorem dX5_spreadWith_92 : decode cX5_spreadWith 92 = .ok (.iaload, 1) := by decide +kernel
theorem dX5_spreadWith_93 : decode cX5_spreadWith 93 = .ok (.isub, 1) := by decide +kernel
theorem dX5_spreadWith_94 : decode cX5_spreadWith 94 = .ok (.if_icmp .ge 8, 3) := by decide +kernel
theorem dX5_spreadWith_97 : decode cX5_spreadWith 97 = .ok (.iload 9, 2) := by decide +kernel
theorem dX5_spreadWith_99 : decode cX5_spreadWith 99 = .ok (.goto 13, 3) := by decide +kernel
theorem dX5_spreadWith_102 : decode cX5_spreadWith 102 = .ok (.aload_n 0, 1) := by decide +kernel
theorem dX5_spreadWith_103 : decode cX5_spreadWith 103 = .ok (.iload 8, 2) := by decide +kernel
theorem dX5_spreadWith_105 : decode cX5_spreadWith 105 = .ok (.iload 6, 2) := by decide +kernel
theorem dX5_spreadWith_107 : decode cX5_spreadWith 107 = .ok (.iload 7, 2) := by decide +kernel
theorem dX5_spreadWith_109 : decode cX5_spreadWith 109 = .ok (.invokevirtual 96, 3) := by decide +kernel
theorem dX5_spreadWith_112 : decode cX5_spreadWith 112 = .ok (.iadd, 1) := by decide +kernel
theorem dX5_spreadWith_113 : decode cX5_spreadWith 113 = .ok (.istore 4, 2) := by decide +kernel
theorem dX5_spreadWith_115 : decode cX5_spreadWith 115 = .ok (.iinc 5 1, 3) := by decide +kernel
theorem dX5_spreadWith_118 : decode cX5_spreadWith 118 = .ok (.goto (-112), 3) := by decide +kernel
theorem dX5_spreadWith_121 : decode cX5_spreadWith 121 = .ok (.iload 4, 2) := by decide +kernel
theorem dX5_spreadWith_123 : decode cX5_spreadWith 123 = .ok (.ireturn, 1) := by decide +kernel
set_option maxRecDepth 20000 in
theorem ggX5_next_X5_isDay : GoodIn wsX5_next wsX5_isDay := goodIn_r _ [4, 5, 6, 3, 7] (by decide +kernel) (by decide +kernel)
set_option maxRecDepth 20000 in
theorem gX5_next_X5_isDay : GoodIn wsX5_next (va_wsS RX5 84 yX5_isDay wsX5_isDay) := goodIn_app (goodIn_of _ (by decide +kernel)) ggX5_next_X5_isDay
set_option maxRecDepth 20000 in
theorem ggX5_next_X5_in : GoodIn wsX5_next wsX5_in := goodIn_r _ [7] (by decide +kernel) (by decide +kernel)
set_option maxRecDepth 20000 in
theorem gX5_next_X5_in : GoodIn wsX5_next (va_wsS RX5 57 yX5_in wsX5_in) := goodIn_app (goodIn_of _ (by decide +kernel)) ggX5_next_X5_in
set_option maxRecDepth 20000 in
theorem ggX5_next_X5_workingOn : GoodIn wsX5_next wsX5_workingOn := goodIn_r _ [11, 12, 13, 14, 46, 47, 48, 49, 50, 51, 52, 53, 54, 55, 56, 57, 58, 59, 60, 61, 62, 63, 64] (by decide +kernel) (by decide +kernel)
set_option maxRecDepth 20000 in
theorem gX5_next_X5_workingOn : GoodIn wsX5_next (wsV RX5 93 RX5 yX5_workingOn wsX5_workingOn) := goodIn_app (goodIn_of _ (by decide +kernel)) ggX5_next_X5_workingOn
set_option maxRecDepth 20000 in
theorem ggX5_next_X5_isPlot : GoodIn wsX5_next wsX5_isPlot := goodIn_r _ [18, 19, 20, 5, 6, 3, 7, 46, 47, 48, 49, 50, 51, 52, 53, 54, 55, 56, 57, 58, 59, 60, 61, 62, 63, 64] (by decide +kernel) (by decide +kernel)
set_option maxRecDepth 20000 in
theorem gX5_next_X5_isPlot : GoodIn wsX5_next (wsV RX5 112 RX5 yX5_isPlot wsX5_isPlot) := goodIn_app (goodIn_of _ (by decide +kernel)) ggX5_next_X5_isPlot
set_option maxRecDepth 20000 in
theorem ggX5_next_X5_gaugeAt : GoodIn wsX5_next wsX5_gaugeAt := goodIn_r _ [24, 12, 25, 26, 46, 47, 48, 49, 50, 51, 52, 53, 54, 55, 56, 57, 58, 59, 60, 61, 62, 63, 64] (by decide +kernel) (by decide +kernel)
set_option maxRecDepth 20000 in
theorem gX5_next_X5_gaugeAt : GoodIn wsX5_next (wsV RX5 72 RX5 yX5_gaugeAt wsX5_gaugeAt) := goodIn_app (goodIn_of _ (by decide +kernel)) ggX5_next_X5_gaugeAt
set_option maxRecDepth 20000 in
theorem ggX5_next_X5_spreadWith : GoodIn wsX5_next wsX5_spreadWith := goodIn_r _ [30, 31, 15, 16, 17, 3, 18, 19, 20, 5, 6, 7, 32, 33, 34, 35, 12, 36, 37, 38, 39, 25, 26, 40, 41, 42, 43, 44, 45, 46, 47, 48, 49, 50, 51, 52, 53, 54, 55, 56, 57, 58, 59, 60, 61, 62, 63, 64] (by decide +kernel) (by decide +kernel)
set_option maxRecDepth 20000 in
theorem gX5_next_X5_spreadWith : GoodIn wsX5_next (wsV RX5 150 RX5 yX5_spreadWith wsX5_spreadWith) := goodIn_app (goodIn_of _ (by decide +kernel)) ggX5_next_X5_spreadWith
theorem dX5_next_0 : decode cX5_next 0 = .ok (.iload_n 1, 1) := by decide +kernel
theorem dX5_next_1 : decode cX5_next 1 = .ok (.invokestatic 84, 3) := by decide +kernel
theorem dX5_next_4 : decode cX5_next 4 = .ok (.ifCond .eq 12, 3) := by decide +kernel
theorem dX5_next_7 : decode cX5_next 7 = .ok (.iload_n 2, 1) := by decide +kernel
theorem dX5_next_8 : decode cX5_next 8 = .ok (.iconst 0, 1) := by decide +kernel
theorem dX5_next_9 : decode cX5_next 9 = .ok (.iconst 2, 1) := by decide +kernel
theorem dX5_next_10 : decode cX5_next 10 = .ok (.invokestatic 57, 3) := by decide +kernel
theorem dX5_next_13 : decode cX5_next 13 = .ok (.ifCond .ne 6, 3) := by decide +kernel
theorem dX5_next_16 : decode cX5_next 16 = .ok (.bipush (-2), 2) := by decide +kernel
theorem dX5_next_18 : decode cX5_next 18 = .ok (.ireturn, 1) := by decide +kernel
theorem dX5_next_19 : decode cX5_next 19 = .ok (.aload_n 0, 1) := by decide +kernel
theorem dX5_next_20 : decode cX5_next 20 = .ok (.iload_n 1, 1) := by decide +kernel
theorem dX5_next_21 : decode cX5_next 21 = .ok (.invokevirtual 93, 3) := by decide +kernel
theorem dX5_next_24 : decode cX5_next 24 = .ok (.istore_n 3, 1) := by decide +kernel
theorem dX5_next_25 : decode cX5_next 25 = .ok (.bipush (-6), 2) := by decide +kernel
theorem dX5_next_27 : decode cX5_next 27 = .ok (.istore 4, 2) := by decide +kernel
theorem dX5_next_29 : decode cX5_next 29 = .ok (.iconst 0, 1) := by decide +kernel
theorem dX5_next_30 : decode cX5_next 30 = .ok (.istore 5, 2) := by decide +kernel
theorem dX5_next_32 : decode cX5_next 32 = .ok (.iconst 0, 1) := by decide +kernel
theorem dX5_next_33 : decode cX5_next 33 = .ok (.istore 6, 2) := by decide +kernel
theorem dX5_next_35 : decode cX5_next 35 = .ok (.iload 6, 2) := by decide +kernel
theorem dX5_next_37 : decode cX5_next 37 = .ok (.sipush 256, 3) := by decide +kernel
theorem dX5_next_40 : decode cX5_next 40 = .ok (.if_icmp .ge 80, 3) := by decide +kernel
theorem dX5_next_43 : decode cX5_next 43 = .ok (.aload_n 0, 1) := by decide +kernel
theorem dX5_next_44 : decode cX5_next 44 = .ok (.iload 6, 2) := by decide +kernel
theorem dX5_next_46 : decode cX5_next 46 = .ok (.bipush 16, 2) := by decide +kernel
theorem dX5_next_48 : decode cX5_next 48 = .ok (.irem, 1) := by decide +kernel
theorem dX5_next_49 : decode cX5_next 49 = .ok (.iload 6, 2) := by decide +kernel
theorem dX5_next_51 : decode cX5_next 51 = .ok (.bipush 16, 2) := by decide +kernel
theorem dX5_next_53 : decode cX5_next 53 = .ok (.idiv, 1) := by decide +kernel
theorem dX5_next_54 : decode cX5_next 54 = .ok (.invokevirtual 112, 3) := by decide +kernel
theorem dX5_next_57 : decode cX5_next 57 = .ok (.ifCond .eq 57, 3) := by decide +kernel
theorem dX5_next_60 : decode cX5_next 60 = .ok (.aload_n 0, 1) := by decide +kernel
theorem dX5_next_61 : decode cX5_next 61 = .ok (.iload 6, 2) := by decide +kernel
theorem dX5_next_63 : decode cX5_next 63 = .ok (.bipush 16, 2) := by decide +kernel
theorem dX5_next_65 : decode cX5_next 65 = .ok (.irem, 1) := by decide +kernel
theorem dX5_next_66 : decode cX5_next 66 = .ok (.iload 6, 2) := by decide +kernel
theorem dX5_next_68 : decode cX5_next 68 = .ok (.bipush 16, 2) := by decide +kernel
theorem dX5_next_70 : decode cX5_next 70 = .ok (.idiv, 1) := by decide +kernel
theorem dX5_next_71 : decode cX5_next 71 = .ok (.invokevirtual 72, 3) := by decide +kernel
theorem dX5_next_74 : decode cX5_next 74 = .ok (.ifCond .ge 40, 3) := by decide +kernel
theorem dX5_next_77 : decode cX5_next 77 = .ok (.aload_n 0, 1) := by decide +kernel
theorem dX5_next_78 : decode cX5_next 78 = .ok (.iload_n 3, 1) := by decide +kernel
theorem dX5_next_79 : decode cX5_next 79 = .ok (.iload 6, 2) := by decide +kernel
theorem dX5_next_81 : decode cX5_next 81 = .ok (.bipush 16, 2) := by decide +kernel
theorem dX5_next_83 : decode cX5_next 83 = .ok (.irem, 1) := by decide +kernel
theorem dX5_next_84 : decode cX5_next 84 = .ok (.iload 6, 2) := by decide +kernel
theorem dX5_next_86 : decode cX5_next 86 = .ok (.bipush 16, 2) := by decide +kernel
theorem dX5_next_88 : decode cX5_next 88 = .ok (.idiv, 1) := by decide +kernel
theorem dX5_next_89 : decode cX5_next 89 = .ok (.invokevirtual 150, 3) := by decide +kernel
theorem dX5_next_92 : decode cX5_next 92 = .ok (.istore 7, 2) := by decide +kernel
theorem dX5_next_94 : decode cX5_next 94 = .ok (.iload 4, 2) := by decide +kernel
theorem dX5_next_96 : decode cX5_next 96 = .ok (.ifCond .lt 10, 3) := by decide +kernel
theorem dX5_next_99 : decode cX5_next 99 = .ok (.iload 7, 2) := by decide +kernel
theorem dX5_next_101 : decode cX5_next 101 = .ok (.iload 5, 2) := by decide +kernel
theorem dX5_next_103 : decode cX5_next 103 = .ok (.if_icmp .ge 11, 3) := by decide +kernel
theorem dX5_next_106 : decode cX5_next 106 = .ok (.iload 6, 2) := by decide +kernel
theorem dX5_next_108 : decode cX5_next 108 = .ok (.istore 4, 2) := by decide +kernel
theorem dX5_next_110 : decode cX5_next 110 = .ok (.iload 7, 2) := by decide +kernel
theorem dX5_next_112 : decode cX5_next 112 = .ok (.istore 5, 2) := by decide +kernel
theorem dX5_next_114 : decode cX5_next 114 = .ok (.iinc 6 1, 3) := by decide +kernel
theorem dX5_next_117 : decode cX5_next 117 = .ok (.goto (-82), 3) := by decide +kernel
theorem dX5_next_120 : decode cX5_next 120 = .ok (.iload 4, 2) := by decide +kernel
theorem dX5_next_122 : decode cX5_next 122 = .ok (.ifCond .ge 8, 3) := by decide +kernel
theorem dX5_next_125 : decode cX5_next 125 = .ok (.bipush (-6), 2) := by decide +kernel
theorem dX5_next_127 : decode cX5_next 127 = .ok (.goto 30, 3) := by decide +kernel
theorem dX5_next_130 : decode cX5_next 130 = .ok (.iload_n 2, 1) := by decide +kernel
theorem dX5_next_131 : decode cX5_next 131 = .ok (.ifCond .ne 11, 3) := by decide +kernel
theorem dX5_next_134 : decode cX5_next 134 = .ok (.iload 4, 2) := by decide +kernel
theorem dX5_next_136 : decode cX5_next 136 = .ok (.bipush 16, 2) := by decide +kernel
theorem dX5_next_138 : decode cX5_next 138 = .ok (.irem, 1) := by decide +kernel
theorem dX5_next_139 : decode cX5_next 139 = .ok (.goto 18, 3) := by decide +kernel
theorem dX5_next_142 : decode cX5_next 142 = .ok (.iload_n 2, 1) := by decide +kernel
theorem dX5_next_143 : decode cX5_next 143 = .ok (.iconst 1, 1) := by decide +kernel
theorem dX5_next_144 : decode cX5_next 144 = .ok (.if_icmp .ne 11, 3) := by decide +kernel
theorem dX5_next_147 : decode cX5_next 147 = .ok (.iload 4, 2) := by decide +kernel
theorem dX5_next_149 : decode cX5_next 149 = .ok (.bipush 16, 2) := by decide +kernel
theorem dX5_next_151 : decode cX5_next 151 = .ok (.idiv, 1) := by decide +kernel
theorem dX5_next_152 : decode cX5_next 152 = .ok (.goto 5, 3) := by decide +kernel
theorem dX5_next_155 : decode cX5_next 155 = .ok (.iload 5, 2) := by decide +kernel
theorem dX5_next_157 : decode cX5_next 157 = .ok (.ireturn, 1) := by decide +kernel
set_option maxRecDepth 20000 in
theorem ggX5_sharedOf_X5_isPlot : GoodIn wsX5_sharedOf wsX5_isPlot := goodIn_r _ [5, 6, 7, 8, 9, 4, 10, 29, 30, 31, 32, 33, 34, 35, 36, 37, 38, 39, 40, 41, 42, 43, 44, 45, 46, 47] (by decide +kernel) (by decide +kernel)
set_option maxRecDepth 20000 in
theorem gX5_sharedOf_X5_isPlot : GoodIn wsX5_sharedOf (wsV RX5 112 RX5 yX5_isPlot wsX5_isPlot) := goodIn_app (goodIn_of _ (by decide +kernel)) ggX5_sharedOf_X5_isPlot
set_option maxRecDepth 20000 in
theorem ggX5_sharedOf_X5_ownerOf : GoodIn wsX5_sharedOf wsX5_ownerOf := goodIn_r _ [14, 15, 16, 17, 18, 19, 4, 20, 21, 22, 23, 24, 25, 26, 27, 28, 29, 30, 31, 32, 33, 34, 35, 36, 37, 38, 39, 40, 41, 42, 43, 44, 45, 46, 47] (by decide +kernel) (by decide +kernel)
set_option maxRecDepth 20000 in
theorem gX5_sharedOf_X5_ownerOf : GoodIn wsX5_sharedOf (wsV RX5 119 RX5 yX5_ownerOf wsX5_ownerOf) := goodIn_app (goodIn_of _ (by decide +kernel)) ggX5_sharedOf_X5_ownerOf
theorem dX5_sharedOf_0 : decode cX5_sharedOf 0 = .ok (.iconst 0, 1) := by decide +kernel
theorem dX5_sharedOf_1 : decode cX5_sharedOf 1 = .ok (.istore 4, 2) := by decide +kernel
theorem dX5_sharedOf_3 : decode cX5_sharedOf 3 = .ok (.iconst 0, 1) := by decide +kernel
theorem dX5_sharedOf_4 : decode cX5_sharedOf 4 = .ok (.istore 5, 2) := by decide +kernel
theorem dX5_sharedOf_6 : decode cX5_sharedOf 6 = .ok (.iload 5, 2) := by decide +kernel
theorem dX5_sharedOf_8 : decode cX5_sharedOf 8 = .ok (.sipush 256, 3) := by decide +kernel
theorem dX5_sharedOf_11 : decode cX5_sharedOf 11 = .ok (.if_icmp .ge 80, 3) := by decide +kernel
theorem dX5_sharedOf_14 : decode cX5_sharedOf 14 = .ok (.iload 5, 2) := by decide +kernel
theorem dX5_sharedOf_16 : decode cX5_sharedOf 16 = .ok (.bipush 16, 2) := by decide +kernel
theorem dX5_sharedOf_18 : decode cX5_sharedOf 18 = .ok (.irem, 1) := by decide +kernel
theorem dX5_sharedOf_19 : decode cX5_sharedOf 19 = .ok (.istore 6, 2) := by decide +kernel
theorem dX5_sharedOf_21 : decode cX5_sharedOf 21 = .ok (.iload 5, 2) := by decide +kernel
theorem dX5_sharedOf_23 : decode cX5_sharedOf 23 = .ok (.bipush 16, 2) := by decide +kernel
theorem dX5_sharedOf_25 : decode cX5_sharedOf 25 = .ok (.idiv, 1) := by decide +kernel
theorem dX5_sharedOf_26 : decode cX5_sharedOf 26 = .ok (.istore 7, 2) := by decide +kernel
theorem dX5_sharedOf_28 : decode cX5_sharedOf 28 = .ok (.iload 4, 2) := by decide +kernel
theorem dX5_sharedOf_30 : decode cX5_sharedOf 30 = .ok (.aload_n 0, 1) := by decide +kernel
theorem dX5_sharedOf_31 : decode cX5_sharedOf 31 = .ok (.iload 6, 2) := by decide +kernel
theorem dX5_sharedOf_33 : decode cX5_sharedOf 33 = .ok (.iload 7, 2) := by decide +kernel
theorem dX5_sharedOf_35 : decode cX5_sharedOf 35 = .ok (.invokevirtual 112, 3) := by decide +kernel
theorem dX5_sharedOf_38 : decode cX5_sharedOf 38 = .ok (.ifCond .eq 43, 3) := by decide +kernel
theorem dX5_sharedOf_41 : decode cX5_sharedOf 41 = .ok (.aload_n 0, 1) := by decide +kernel
theorem dX5_sharedOf_42 : decode cX5_sharedOf 42 = .ok (.iload_n 1, 1) := by decide +kernel
theorem dX5_sharedOf_43 : decode cX5_sharedOf 43 = .ok (.iconst 1, 1) := by decide +kernel
theorem dX5_sharedOf_44 : decode cX5_sharedOf 44 = .ok (.iload_n 2, 1) := by decide +kernel
theorem dX5_sharedOf_45 : decode cX5_sharedOf 45 = .ok (.ishl, 1) := by decide +kernel
theorem dX5_sharedOf_46 : decode cX5_sharedOf 46 = .ok (.ior, 1) := by decide +kernel
theorem dX5_sharedOf_47 : decode cX5_sharedOf 47 = .ok (.iload 6, 2) := by decide +kernel
theorem dX5_sharedOf_49 : decode cX5_sharedOf 49 = .ok (.iload 7, 2) := by decide +kernel
theorem dX5_sharedOf_51 : decode cX5_sharedOf 51 = .ok (.invokevirtual 119, 3) := by decide +kernel
theorem dX5_sharedOf_54 : decode cX5_sharedOf 54 = .ok (.iload_n 2, 1) := by decide +kernel
theorem dX5_sharedOf_55 : decode cX5_sharedOf 55 = .ok (.if_icmp .ne 26, 3) := by decide +kernel
theorem dX5_sharedOf_58 : decode cX5_sharedOf 58 = .ok (.aload_n 0, 1) := by decide +kernel
theorem dX5_sharedOf_59 : decode cX5_sharedOf 59 = .ok (.iload_n 1, 1) := by decide +kernel
theorem dX5_sharedOf_60 : decode cX5_sharedOf 60 = .ok (.iconst 1, 1) := by decide +kernel
theorem dX5_sharedOf_61 : decode cX5_sharedOf 61 = .ok (.iload_n 2, 1) := by decide +kernel
theorem dX5_sharedOf_62 : decode cX5_sharedOf 62 = .ok (.ishl, 1) := by decide +kernel
theorem dX5_sharedOf_63 : decode cX5_sharedOf 63 = .ok (.iconst (-1), 1) := by decide +kernel
theorem dX5_sharedOf_64 : decode cX5_sharedOf 64 = .ok (.ixor, 1) := by decide +kernel
theorem dX5_sharedOf_65 : decode cX5_sharedOf 65 = .ok (.iand, 1) := by decide +kernel
theorem dX5_sharedOf_66 : decode cX5_sharedOf 66 = .ok (.iload 6, 2) := by decide +kernel
theorem dX5_sharedOf_68 : decode cX5_sharedOf 68 = .ok (.iload 7, 2) := by decide +kernel
theorem dX5_sharedOf_70 : decode cX5_sharedOf 70 = .ok (.invokevirtual 119, 3) := by decide +kernel
theorem dX5_sharedOf_73 : decode cX5_sharedOf 73 = .ok (.iload_n 3, 1) := by decide +kernel
theorem dX5_sharedOf_74 : decode cX5_sharedOf 74 = .ok (.if_icmp .ne 7, 3) := by decide +kernel
theorem dX5_sharedOf_77 : decode cX5_sharedOf 77 = .ok (.iconst 1, 1) := by decide +kernel
theorem dX5_sharedOf_78 : decode cX5_sharedOf 78 = .ok (.goto 4, 3) := by decide +kernel
theorem dX5_sharedOf_81 : decode cX5_sharedOf 81 = .ok (.iconst 0, 1) := by decide +kernel
theorem dX5_sharedOf_82 : decode cX5_sharedOf 82 = .ok (.iadd, 1) := by decide +kernel
theorem dX5_sharedOf_83 : decode cX5_sharedOf 83 = .ok (.istore 4, 2) := by decide +kernel
theorem dX5_sharedOf_85 : decode cX5_sharedOf 85 = .ok (.iinc 5 1, 3) := by decide +kernel
theorem dX5_sharedOf_88 : decode cX5_sharedOf 88 = .ok (.goto (-82), 3) := by decide +kernel
theorem dX5_sharedOf_91 : decode cX5_sharedOf 91 = .ok (.iload 4, 2) := by decide +kernel
theorem dX5_sharedOf_93 : decode cX5_sharedOf 93 = .ok (.ireturn, 1) := by decide +kernel
theorem dX5_without_0 : decode cX5_without 0 = .ok (.iload_n 0, 1) := by decide +kernel
theorem dX5_without_1 : decode cX5_without 1 = .ok (.iconst 1, 1) := by decide +kernel
theorem dX5_without_2 : decode cX5_without 2 = .ok (.iload_n 1, 1) := by decide +kernel
theorem dX5_without_3 : decode cX5_without 3 = .ok (.ishl, 1) := by decide +kernel
theorem dX5_without_4 : decode cX5_without 4 = .ok (.iconst (-1), 1) := by decide +kernel
theorem dX5_without_5 : decode cX5_without 5 = .ok (.ixor, 1) := by decide +kernel
theorem dX5_without_6 : decode cX5_without 6 = .ok (.iand, 1) := by decide +kernel
theorem dX5_without_7 : decode cX5_without 7 = .ok (.ireturn, 1) := by decide +kernel
set_option maxRecDepth 20000 in
theorem ggX5_lookUpBoth_X5_lookUp : GoodIn wsX5_lookUpBoth wsX5_lookUp := goodIn_r _ [5, 6, 7, 8, 9, 10, 14, 15, 16, 17, 18, 19, 20, 21, 22, 23, 24, 25, 26, 27, 28, 29, 30, 31, 32] (by decide +kernel) (by decide +kernel)
set_option maxRecDepth 20000 in
theorem gX5_lookUpBoth_X5_lookUp : GoodIn wsX5_lookUpBoth (wsV RX5 115 RX5 yX5_lookUp wsX5_lookUp) := goodIn_app (goodIn_of _ (by decide +kernel)) ggX5_lookUpBoth_X5_lookUp
set_option maxRecDepth 20000 in
theorem ggX5_lookUpBoth_X5_without : GoodIn wsX5_lookUpBoth wsX5_without := goodIn_r _ [13] (by decide +kernel) (by decide +kernel)
set_option maxRecDepth 20000 in
theorem gX5_lookUpBoth_X5_without : GoodIn wsX5_lookUpBoth (va_wsS RX5 153 yX5_without wsX5_without) := goodIn_app (goodIn_of _ (by decide +kernel)) ggX5_lookUpBoth_X5_without
theorem dX5_lookUpBoth_0 : decode cX5_lookUpBoth 0 = .ok (.aload_n 0, 1) := by decide +kernel
theorem dX5_lookUpBoth_1 : decode cX5_lookUpBoth 1 = .ok (.iload_n 1, 1) := by decide +kernel
theorem dX5_lookUpBoth_2 : decode cX5_lookUpBoth 2 = .ok (.iconst 1, 1) := by decide +kernel
theorem dX5_lookUpBoth_3 : decode cX5_lookUpBoth 3 = .ok (.iload_n 2, 1) := by decide +kernel
theorem dX5_lookUpBoth_4 : decode cX5_lookUpBoth 4 = .ok (.ishl, 1) := by decide +kernel
theorem dX5_lookUpBoth_5 : decode cX5_lookUpBoth 5 = .ok (.ior, 1) := by decide +kernel
theorem dX5_lookUpBoth_6 : decode cX5_lookUpBoth 6 = .ok (.invokevirtual 115, 3) := by decide +kernel
theorem dX5_lookUpBoth_9 : decode cX5_lookUpBoth 9 = .ok (.aload_n 0, 1) := by decide +kernel
theorem dX5_lookUpBoth_10 : decode cX5_lookUpBoth 10 = .ok (.iload_n 1, 1) := by decide +kernel
theorem dX5_lookUpBoth_11 : decode cX5_lookUpBoth 11 = .ok (.iload_n 2, 1) := by decide +kernel
theorem dX5_lookUpBoth_12 : decode cX5_lookUpBoth 12 = .ok (.invokestatic 153, 3) := by decide +kernel
theorem dX5_lookUpBoth_15 : decode cX5_lookUpBoth 15 = .ok (.invokevirtual 115, 3) := by decide +kernel
theorem dX5_lookUpBoth_18 : decode cX5_lookUpBoth 18 = .ok (.return_, 1) := by decide +kernel
set_option maxRecDepth 20000 in
theorem ggX5_shared_X5_isGauge : GoodIn wsX5_shared wsX5_isGauge := goodIn_r _ [5, 6, 7, 8, 4, 9, 62, 63, 64, 65, 66, 67, 68, 69, 70, 71, 72, 73, 74, 75, 76, 77, 78, 79, 80] (by decide +kernel) (by decide +kernel)
set_option maxRecDepth 20000 in
theorem gX5_shared_X5_isGauge : GoodIn wsX5_shared (wsV RX5 76 RX5 yX5_isGauge wsX5_isGauge) := goodIn_app (goodIn_of _ (by decide +kernel)) ggX5_shared_X5_isGauge
set_option maxRecDepth 20000 in
theorem ggX5_shared_X5_isDay : GoodIn wsX5_shared wsX5_isDay := goodIn_r _ [12, 7, 8, 4, 9] (by decide +kernel) (by decide +kernel)
set_option maxRecDepth 20000 in
theorem gX5_shared_X5_isDay : GoodIn wsX5_shared (va_wsS RX5 84 yX5_isDay wsX5_isDay) := goodIn_app (goodIn_of _ (by decide +kernel)) ggX5_shared_X5_isDay
set_option maxRecDepth 20000 in
theorem ggX5_shared_X5_workingOn : GoodIn wsX5_shared wsX5_workingOn := goodIn_r _ [16, 6, 17, 18, 62, 63, 64, 65, 66, 67, 68, 69, 70, 71, 72, 73, 74, 75, 76, 77, 78, 79, 80] (by decide +kernel) (by decide +kernel)
set_option maxRecDepth 20000 in
theorem gX5_shared_X5_workingOn : GoodIn wsX5_shared (wsV RX5 93 RX5 yX5_workingOn wsX5_workingOn) := goodIn_app (goodIn_of _ (by decide +kernel)) ggX5_shared_X5_workingOn
set_option maxRecDepth 20000 in
theorem ggX5_shared_X5_without : GoodIn wsX5_shared wsX5_without := goodIn_r _ [21] (by decide +kernel) (by decide +kernel)
set_option maxRecDepth 20000 in
theorem gX5_shared_X5_without : GoodIn wsX5_shared (va_wsS RX5 153 yX5_without wsX5_without) := goodIn_app (goodIn_of _ (by decide +kernel)) ggX5_shared_X5_without
set_option maxRecDepth 20000 in
theorem ggX5_shared_X5_lookUpBoth : GoodIn wsX5_shared wsX5_lookUpBoth := goodIn_r _ [25, 26, 27, 28, 4, 29, 30, 31, 32, 33, 34, 19, 20, 21, 62, 63, 64, 65, 66, 67, 68, 69, 70, 71, 72, 73, 74, 75, 76, 77, 78, 79, 80] (by decide +kernel) (by decide +kernel)
set_option maxRecDepth 20000 in
theorem gX5_shared_X5_lookUpBoth : GoodIn wsX5_shared (wsV RX5 156 RX5 yX5_lookUpBoth wsX5_lookUpBoth) := goodIn_app (goodIn_of _ (by decide +kernel)) ggX5_shared_X5_lookUpBoth
set_option maxRecDepth 20000 in
theorem ggX5_shared_X5_has : GoodIn wsX5_shared wsX5_has := goodIn_r _ [37] (by decide +kernel) (by decide +kernel)
set_option maxRecDepth 20000 in
theorem gX5_shared_X5_has : GoodIn wsX5_shared (va_wsS RX5 100 yX5_has wsX5_has) := goodIn_app (goodIn_of _ (by decide +kernel)) ggX5_shared_X5_has
set_option maxRecDepth 20000 in
theorem ggX5_shared_X5_sharedOf : GoodIn wsX5_shared wsX5_sharedOf := goodIn_r _ [41, 42, 43, 44, 4, 45, 46, 47, 7, 8, 9, 48, 49, 50, 51, 6, 52, 53, 54, 55, 56, 57, 58, 59, 60, 61, 35, 36, 37, 62, 63, 64, 65, 66, 67, 68, 69, 70, 71, 72, 73, 74, 75, 76, 77, 78, 79, 80] (by decide +kernel) (by decide +kernel)
set_option maxRecDepth 20000 in
theorem gX5_shared_X5_sharedOf : GoodIn wsX5_shared (wsV RX5 160 RX5 yX5_sharedOf wsX5_sharedOf) := goodIn_app (goodIn_of _ (by decide +kernel)) ggX5_shared_X5_sharedOf
theorem dX5_shared_0 : decode cX5_shared 0 = .ok (.aload_n 0, 1) := by decide +kernel
theorem dX5_shared_1 : decode cX5_shared 1 = .ok (.iload_n 2, 1) := by decide +kernel
theorem dX5_shared_2 : decode cX5_shared 2 = .ok (.invokevirtual 76, 3) := by decide +kernel
theorem dX5_shared_5 : decode cX5_shared 5 = .ok (.ifCond .eq 11, 3) := by decide +kernel
theorem dX5_shared_8 : decode cX5_shared 8 = .ok (.aload_n 0, 1) := by decide +kernel
theorem dX5_shared_9 : decode cX5_shared 9 = .ok (.iload_n 3, 1) := by decide +kernel
theorem dX5_shared_10 : decode cX5_shared 10 = .ok (.invokevirtual 76, 3) := by decide +kernel
theorem dX5_shared_13 : decode cX5_shared 13 = .ok (.ifCond .ne 5, 3) := by decide +kernel
theorem dX5_shared_16 : decode cX5_shared 16 = .ok (.iconst (-1), 1) := by decide +kernel
theorem dX5_shared_17 : decode cX5_shared 17 = .ok (.ireturn, 1) := by decide +kernel
theorem dX5_shared_18 : decode cX5_shared 18 = .ok (.iload_n 1, 1) := by decide +kernel
theorem dX5_shared_19 : decode cX5_shared 19 = .ok (.invokestatic 84, 3) := by decide +kernel
theorem dX5_shared_22 : decode cX5_shared 22 = .ok (.ifCond .eq 8, 3) := by decide +kernel
theorem dX5_shared_25 : decode cX5_shared 25 = .ok (.iload_n 2, 1) := by decide +kernel
theorem dX5_shared_26 : decode cX5_shared 26 = .ok (.iload_n 3, 1) := by decide +kernel
theorem dX5_shared_27 : decode cX5_shared 27 = .ok (.if_icmp .ne 6, 3) := by decide +kernel
theorem dX5_shared_30 : decode cX5_shared 30 = .ok (.bipush (-2), 2) := by decide +kernel
theorem dX5_shared_32 : decode cX5_shared 32 = .ok (.ireturn, 1) := by decide +kernel
theorem dX5_shared_33 : decode cX5_shared 33 = .ok (.aload_n 0, 1) := by decide +kernel
theorem dX5_shared_34 : decode cX5_shared 34 = .ok (.iload_n 1, 1) := by decide +kernel
theorem dX5_shared_35 : decode cX5_shared 35 = .ok (.invokevirtual 93, 3) := by decide +kernel
theorem dX5_shared_38 : decode cX5_shared 38 = .ok (.istore 4, 2) := by decide +kernel
theorem dX5_shared_40 : decode cX5_shared 40 = .ok (.iload 4, 2) := by decide +kernel
theorem dX5_shared_42 : decode cX5_shared 42 = .ok (.iload_n 2, 1) := by decide +kernel
theorem dX5_shared_43 : decode cX5_shared 43 = .ok (.invokestatic 153, 3) := by decide +kernel
theorem dX5_shared_46 : decode cX5_shared 46 = .ok (.ifCond .ne 6, 3) := by decide +kernel
theorem dX5_shared_49 : decode cX5_shared 49 = .ok (.bipush (-3), 2) := by decide +kernel
theorem dX5_shared_51 : decode cX5_shared 51 = .ok (.ireturn, 1) := by decide +kernel
theorem dX5_shared_52 : decode cX5_shared 52 = .ok (.aload_n 0, 1) := by decide +kernel
theorem dX5_shared_53 : decode cX5_shared 53 = .ok (.iload 4, 2) := by decide +kernel
theorem dX5_shared_55 : decode cX5_shared 55 = .ok (.iload_n 2, 1) := by decide +kernel
theorem dX5_shared_56 : decode cX5_shared 56 = .ok (.invokevirtual 156, 3) := by decide +kernel
theorem dX5_shared_59 : decode cX5_shared 59 = .ok (.iload 4, 2) := by decide +kernel
theorem dX5_shared_61 : decode cX5_shared 61 = .ok (.iload_n 3, 1) := by decide +kernel
theorem dX5_shared_62 : decode cX5_shared 62 = .ok (.invokestatic 100, 3) := by decide +kernel
theorem dX5_shared_65 : decode cX5_shared 65 = .ok (.ifCond .eq 14, 3) := by decide +kernel
theorem dX5_shared_68 : decode cX5_shared 68 = .ok (.aload_n 0, 1) := by decide +kernel
theorem dX5_shared_69 : decode cX5_shared 69 = .ok (.iload 4, 2) := by decide +kernel
theorem dX5_shared_71 : decode cX5_shared 71 = .ok (.iload_n 2, 1) := by decide +kernel
theorem dX5_shared_72 : decode cX5_shared 72 = .ok (.iload_n 3, 1) := by decide +kernel
theorem dX5_shared_73 : decode cX5_shared 73 = .ok (.invokevirtual 160, 3) := by decide +kernel
theorem dX5_shared_76 : decode cX5_shared 76 = .ok (.goto 4, 3) := by decide +kernel
theorem dX5_shared_79 : decode cX5_shared 79 = .ok (.iconst 0, 1) := by decide +kernel
theorem dX5_shared_80 : decode cX5_shared 80 = .ok (.ireturn, 1) := by decide +kernel
set_option maxRecDepth 20000 in
theorem ggX5_sharedWater_X5_workingOn : GoodIn wsX5_sharedWater wsX5_workingOn := goodIn_r _ [7, 1, 8, 2, 39, 40, 41, 42, 43, 44, 45, 46, 47, 48, 49, 50, 51, 52, 53, 54, 55, 56, 57] (by decide +kernel) (by decide +kernel)
set_option maxRecDepth 20000 in
theorem gX5_sharedWater_X5_workingOn : GoodIn wsX5_sharedWater (wsV RX5 93 RX5 yX5_workingOn wsX5_workingOn) := goodIn_app (goodIn_of _ (by decide +kernel)) ggX5_sharedWater_X5_workingOn
set_option maxRecDepth 20000 in
theorem ggX5_sharedWater_X5_has : GoodIn wsX5_sharedWater wsX5_has := goodIn_r _ [11] (by decide +kernel) (by decide +kernel)
set_option maxRecDepth 20000 in
theorem gX5_sharedWater_X5_has : GoodIn wsX5_sharedWater (va_wsS RX5 100 yX5_has wsX5_has) := goodIn_app (goodIn_of _ (by decide +kernel)) ggX5_sharedWater_X5_has
set_option maxRecDepth 20000 in
theorem ggX5_sharedWater_X5_sharedOf : GoodIn wsX5_sharedWater wsX5_sharedOf := goodIn_r _ [15, 16, 17, 18, 6, 19, 20, 21, 22, 23, 24, 25, 26, 27, 28, 1, 29, 30, 31, 32, 33, 34, 35, 36, 37, 38, 9, 10, 11, 39, 40, 41, 42, 43, 44, 45, 46, 47, 48, 49, 50, 51, 52, 53, 54, 55, 56, 57] (by decide +kernel) (by decide +kernel)
set_option maxRecDepth 20000 in
theorem gX5_sharedWater_X5_sharedOf : GoodIn wsX5_sharedWater (wsV RX5 160 RX5 yX5_sharedOf wsX5_sharedOf) := goodIn_app (goodIn_of _ (by decide +kernel)) ggX5_sharedWater_X5_sharedOf
theorem dX5_sharedWater_0 : decode cX5_sharedWater 0 = .ok (.aload_n 0, 1) := by decide +kernel
theorem dX5_sharedWater_1 : decode cX5_sharedWater 1 = .ok (.iload_n 1, 1) := by decide +kernel
theorem dX5_sharedWater_2 : decode cX5_sharedWater 2 = .ok (.invokevirtual 93, 3) := by decide +kernel
theorem dX5_sharedWater_5 : decode cX5_sharedWater 5 = .ok (.istore_n 3, 1) := by decide +kernel
theorem dX5_sharedWater_6 : decode cX5_sharedWater 6 = .ok (.iconst 0, 1) := by decide +kernel
theorem dX5_sharedWater_7 : decode cX5_sharedWater 7 = .ok (.istore 4, 2) := by decide +kernel
theorem dX5_sharedWater_9 : decode cX5_sharedWater 9 = .ok (.iconst 0, 1) := by decide +kernel
theorem dX5_sharedWater_10 : decode cX5_sharedWater 10 = .ok (.istore 5, 2) := by decide +kernel
theorem dX5_sharedWater_12 : decode cX5_sharedWater 12 = .ok (.iload 5, 2) := by decide +kernel
theorem dX5_sharedWater_14 : decode cX5_sharedWater 14 = .ok (.aload_n 0, 1) := by decide +kernel
theorem dX5_sharedWater_15 : decode cX5_sharedWater 15 = .ok (.getfield 53, 3) := by decide +kernel
theorem dX5_sharedWater_18 : decode cX5_sharedWater 18 = .ok (.if_icmp .ge 54, 3) := by decide +kernel
theorem dX5_sharedWater_21 : decode cX5_sharedWater 21 = .ok (.iload 4, 2) := by decide +kernel
theorem dX5_sharedWater_23 : decode cX5_sharedWater 23 = .ok (.iload 5, 2) := by decide +kernel
theorem dX5_sharedWater_25 : decode cX5_sharedWater 25 = .ok (.iload_n 2, 1) := by decide +kernel
theorem dX5_sharedWater_26 : decode cX5_sharedWater 26 = .ok (.if_icmp .eq 36, 3) := by decide +kernel
theorem dX5_sharedWater_29 : decode cX5_sharedWater 29 = .ok (.iload_n 3, 1) := by decide +kernel
theorem dX5_sharedWater_30 : decode cX5_sharedWater 30 = .ok (.iload 5, 2) := by decide +kernel
theorem dX5_sharedWater_32 : decode cX5_sharedWater 32 = .ok (.invokestatic 100, 3) := by decide +kernel
theorem dX5_sharedWater_35 : decode cX5_sharedWater 35 = .ok (.ifCond .eq 27, 3) := by decide +kernel
theorem dX5_sharedWater_38 : decode cX5_sharedWater 38 = .ok (.aload_n 0, 1) := by decide +kernel
theorem dX5_sharedWater_39 : decode cX5_sharedWater 39 = .ok (.iload_n 3, 1) := by decide +kernel
theorem dX5_sharedWater_40 : decode cX5_sharedWater 40 = .ok (.iload_n 2, 1) := by decide +kernel
theorem dX5_sharedWater_41 : decode cX5_sharedWater 41 = .ok (.iload 5, 2) := by decide +kernel
theorem dX5_sharedWater_43 : decode cX5_sharedWater 43 = .ok (.invokevirtual 160, 3) := by decide +kernel
theorem dX5_sharedWater_46 : decode cX5_sharedWater 46 = .ok (.aload_n 0, 1) := by decide +kernel
theorem dX5_sharedWater_47 : decode cX5_sharedWater 47 = .ok (.getfield 29, 3) := by decide +kernel
theorem dX5_sharedWater_50 : decode cX5_sharedWater 50 = .ok (.bipush 64, 2) := by decide +kernel
theorem dX5_sharedWater_52 : decode cX5_sharedWater 52 = .ok (.iload 5, 2) := by decide +kernel
theorem dX5_sharedWater_54 : decode cX5_sharedWater 54 = .ok (.imul, 1) := by decide +kernel
theorem dX5_sharedWater_55 : decode cX5_sharedWater 55 = .ok (.iload_n 1, 1) := by decide +kernel
theorem dX5_sharedWater_56 : decode cX5_sharedWater 56 = .ok (.iadd, 1) := by decide +kernel
theorem dX5_sharedWater_57 : decode cX5_sharedWater 57 = .ok (.iaload, 1) := by decide +kernel
theorem dX5_sharedWater_58 : decode cX5_sharedWater 58 = .ok (.imul, 1) := by decide +kernel
theorem dX5_sharedWater_59 : decode cX5_sharedWater 59 = .ok (.goto 4, 3) := by decide +kernel
theorem dX5_sharedWater_62 : decode cX5_sharedWater 62 = .ok (.iconst 0, 1) := by decide +kernel
theorem dX5_sharedWater_63 : decode cX5_sharedWater 63 = .ok (.iadd, 1) := by decide +kernel
theorem dX5_sharedWater_64 : decode cX5_sharedWater 64 = .ok (.istore 4, 2) := by decide +kernel
theorem dX5_sharedWater_66 : decode cX5_sharedWater 66 = .ok (.iinc 5 1, 3) := by decide +kernel
theorem dX5_sharedWater_69 : decode cX5_sharedWater 69 = .ok (.goto (-57), 3) := by decide +kernel
theorem dX5_sharedWater_72 : decode cX5_sharedWater 72 = .ok (.iload 4, 2) := by decide +kernel
theorem dX5_sharedWater_74 : decode cX5_sharedWater 74 = .ok (.ireturn, 1) := by decide +kernel
set_option maxRecDepth 20000 in
theorem ggX5_estimate_X5_isGauge : GoodIn wsX5_estimate wsX5_isGauge := goodIn_r _ [5, 6, 7, 8, 4, 9, 76, 77, 78, 79, 80, 81, 82, 83, 84, 85, 86, 87, 88, 89, 90, 91, 92, 93, 94] (by decide +kernel) (by decide +kernel)
set_option maxRecDepth 20000 in
theorem gX5_estimate_X5_isGauge : GoodIn wsX5_estimate (wsV RX5 76 RX5 yX5_isGauge wsX5_isGauge) := goodIn_app (goodIn_of _ (by decide +kernel)) ggX5_estimate_X5_isGauge
set_option maxRecDepth 20000 in
theorem ggX5_estimate_X5_isDay : GoodIn wsX5_estimate wsX5_isDay := goodIn_r _ [12, 7, 8, 4, 9] (by decide +kernel) (by decide +kernel)
set_option maxRecDepth 20000 in
theorem gX5_estimate_X5_isDay : GoodIn wsX5_estimate (va_wsS RX5 84 yX5_isDay wsX5_isDay) := goodIn_app (goodIn_of _ (by decide +kernel)) ggX5_estimate_X5_isDay
set_option maxRecDepth 20000 in
theorem ggX5_estimate_X5_in : GoodIn wsX5_estimate wsX5_in := goodIn_r _ [9] (by decide +kernel) (by decide +kernel)
set_option maxRecDepth 20000 in
theorem gX5_estimate_X5_in : GoodIn wsX5_estimate (va_wsS RX5 57 yX5_in wsX5_in) := goodIn_app (goodIn_of _ (by decide +kernel)) ggX5_estimate_X5_in
set_option maxRecDepth 20000 in
theorem ggX5_estimate_X5_workingOn : GoodIn wsX5_estimate wsX5_workingOn := goodIn_r _ [16, 6, 17, 18, 76, 77, 78, 79, 80, 81, 82, 83, 84, 85, 86, 87, 88, 89, 90, 91, 92, 93, 94] (by decide +kernel) (by decide +kernel)
set_option maxRecDepth 20000 in
theorem gX5_estimate_X5_workingOn : GoodIn wsX5_estimate (wsV RX5 93 RX5 yX5_workingOn wsX5_workingOn) := goodIn_app (goodIn_of _ (by decide +kernel)) ggX5_estimate_X5_workingOn
set_option maxRecDepth 20000 in
theorem ggX5_estimate_X5_without : GoodIn wsX5_estimate wsX5_without := goodIn_r _ [21] (by decide +kernel) (by decide +kernel)
set_option maxRecDepth 20000 in
theorem gX5_estimate_X5_without : GoodIn wsX5_estimate (va_wsS RX5 153 yX5_without wsX5_without) := goodIn_app (goodIn_of _ (by decide +kernel)) ggX5_estimate_X5_without
set_option maxRecDepth 20000 in
theorem ggX5_estimate_X5_lookUpBoth : GoodIn wsX5_estimate wsX5_lookUpBoth := goodIn_r _ [25, 26, 27, 28, 4, 29, 30, 31, 32, 33, 34, 19, 20, 21, 76, 77, 78, 79, 80, 81, 82, 83, 84, 85, 86, 87, 88, 89, 90, 91, 92, 93, 94] (by decide +kernel) (by decide +kernel)
set_option maxRecDepth 20000 in
theorem gX5_estimate_X5_lookUpBoth : GoodIn wsX5_estimate (wsV RX5 156 RX5 yX5_lookUpBoth wsX5_lookUpBoth) := goodIn_app (goodIn_of _ (by decide +kernel)) ggX5_estimate_X5_lookUpBoth
set_option maxRecDepth 20000 in
theorem ggX5_estimate_X5_size : GoodIn wsX5_estimate wsX5_size := goodIn_r _ [38, 39, 40, 41, 4, 42, 43, 44, 7, 8, 9, 45, 46, 47, 48, 6, 49, 50, 51, 52, 53, 54, 55, 56, 57, 58, 59, 60, 61, 76, 77, 78, 79, 80, 81, 82, 83, 84, 85, 86, 87, 88, 89, 90, 91, 92, 93, 94] (by decide +kernel) (by decide +kernel)
set_option maxRecDepth 20000 in
theorem gX5_estimate_X5_size : GoodIn wsX5_estimate (wsV RX5 125 RX5 yX5_size wsX5_size) := goodIn_app (goodIn_of _ (by decide +kernel)) ggX5_estimate_X5_size
set_option maxRecDepth 20000 in
theorem ggX5_estimate_X5_sharedWater : GoodIn wsX5_estimate wsX5_sharedWater := goodIn_r _ [65, 6, 18, 13, 14, 15, 4, 16, 17, 59, 60, 61, 66, 67, 68, 69, 39, 40, 41, 42, 43, 44, 7, 8, 9, 45, 46, 47, 48, 49, 50, 51, 52, 53, 54, 55, 56, 57, 58, 76, 77, 78, 79, 80, 81, 82, 83, 84, 85, 86, 87, 88, 89, 90, 91, 92, 93, 94] (by decide +kernel) (by decide +kernel)
set_option maxRecDepth 20000 in
theorem gX5_estimate_X5_sharedWater : GoodIn wsX5_estimate (wsV RX5 163 RX5 yX5_sharedWater wsX5_sharedWater) := goodIn_app (goodIn_of _ (by decide +kernel)) ggX5_estimate_X5_sharedWater
set_option maxRecDepth 20000 in
theorem ggX5_estimate_X5_part : GoodIn wsX5_estimate wsX5_part := goodIn_r _ [72, 73, 74, 4, 75] (by decide +kernel) (by decide +kernel)
set_option maxRecDepth 20000 in
theorem gX5_estimate_X5_part : GoodIn wsX5_estimate (va_wsS RX5 131 yX5_part wsX5_part) := goodIn_app (goodIn_of _ (by decide +kernel)) ggX5_estimate_X5_part
theorem dX5_estimate_0 : decode cX5_estimate 0 = .ok (.aload_n 0, 1) := by decide +kernel
theorem dX5_estimate_1 : decode cX5_estimate 1 = .ok (.iload_n 2, 1) := by decide +kernel
theorem dX5_estimate_2 : decode cX5_estimate 2 = .ok (.invokevirtual 76, 3) := by decide +kernel
theorem dX5_estimate_5 : decode cX5_estimate 5 = .ok (.ifCond .ne 5, 3) := by decide +kernel
theorem dX5_estimate_8 : decode cX5_estimate 8 = .ok (.iconst (-1), 1) := by decide +kernel
theorem dX5_estimate_9 : decode cX5_estimate 9 = .ok (.ireturn, 1) := by decide +kernel
theorem dX5_estimate_10 : decode cX5_estimate 10 = .ok (.iload_n 1, 1) := by decide +kernel
theorem dX5_estimate_11 : decode cX5_estimate 11 = .ok (.invokestatic 84, 3) := by decide +kernel
theorem dX5_estimate_14 : decode cX5_estimate 14 = .ok (.ifCond .eq 12, 3) := by decide +kernel
theorem dX5_estimate_17 : decode cX5_estimate 17 = .ok (.iload_n 3, 1) := by decide +kernel
theorem dX5_estimate_18 : decode cX5_estimate 18 = .ok (.iconst 0, 1) := by decide +kernel
theorem dX5_estimate_19 : decode cX5_estimate 19 = .ok (.iconst 1, 1) := by decide +kernel
theorem dX5_estimate_20 : decode cX5_estimate 20 = .ok (.invokestatic 57, 3) := by decide +kernel
theorem dX5_estimate_23 : decode cX5_estimate 23 = .ok (.ifCond .ne 6, 3) := by decide +kernel
theorem dX5_estimate_26 : decode cX5_estimate 26 = .ok (.bipush (-2), 2) := by decide +kernel
theorem dX5_estimate_28 : decode cX5_estimate 28 = .ok (.ireturn, 1) := by decide +kernel
theorem dX5_estimate_29 : decode cX5_estimate 29 = .ok (.aload_n 0, 1) := by decide +kernel
theorem dX5_estimate_30 : decode cX5_estimate 30 = .ok (.iload_n 1, 1) := by decide +kernel
theorem dX5_estimate_31 : decode cX5_estimate 31 = .ok (.invokevirtual 93, 3) := by decide +kernel
theorem dX5_estimate_34 : decode cX5_estimate 34 = .ok (.istore 4, 2) := by decide +kernel
theorem dX5_estimate_36 : decode cX5_estimate 36 = .ok (.iload 4, 2) := by decide +kernel
theorem dX5_estimate_38 : decode cX5_estimate 38 = .ok (.iload_n 2, 1) := by decide +kernel
theorem dX5_estimate_39 : decode cX5_estimate 39 = .ok (.invokestatic 153, 3) := by decide +kernel
theorem dX5_estimate_42 : decode cX5_estimate 42 = .ok (.ifCond .ne 6, 3) := by decide +kernel
theorem dX5_estimate_45 : decode cX5_estimate 45 = .ok (.bipush (-3), 2) := by decide +kernel
theorem dX5_estimate_47 : decode cX5_estimate 47 = .ok (.ireturn, 1) := by decide +kernel
theorem dX5_estimate_48 : decode cX5_estimate 48 = .ok (.aload_n 0, 1) := by decide +kernel
theorem dX5_estimate_49 : decode cX5_estimate 49 = .ok (.iload 4, 2) := by decide +kernel
theorem dX5_estimate_51 : decode cX5_estimate 51 = .ok (.iload_n 2, 1) := by decide +kernel
theorem dX5_estimate_52 : decode cX5_estimate 52 = .ok (.invokevirtual 156, 3) := by decide +kernel
theorem dX5_estimate_55 : decode cX5_estimate 55 = .ok (.aload_n 0, 1) := by decide +kernel
theorem dX5_estimate_56 : decode cX5_estimate 56 = .ok (.iload 4, 2) := by decide +kernel
theorem dX5_estimate_58 : decode cX5_estimate 58 = .ok (.iconst 1, 1) := by decide +kernel
theorem dX5_estimate_59 : decode cX5_estimate 59 = .ok (.iload_n 2, 1) := by decide +kernel
theorem dX5_estimate_60 : decode cX5_estimate 60 = .ok (.ishl, 1) := by decide +kernel
theorem dX5_estimate_61 : decode cX5_estimate 61 = .ok (.ior, 1) := by decide +kernel
theorem dX5_estimate_62 : decode cX5_estimate 62 = .ok (.iload_n 2, 1) := by decide +kernel
theorem dX5_estimate_63 : decode cX5_estimate 63 = .ok (.invokevirtual 125, 3) := by decide +kernel
theorem dX5_estimate_66 : decode cX5_estimate 66 = .ok (.istore 5, 2) := by decide +kernel
theorem dX5_estimate_68 : decode cX5_estimate 68 = .ok (.iload 5, 2) := by decide +kernel
theorem dX5_estimate_70 : decode cX5_estimate 70 = .ok (.ifCond .ne 8, 3) := by decide +kernel
theorem dX5_estimate_73 : decode cX5_estimate 73 = .ok (.bipush (-6), 2) := by decide +kernel
theorem dX5_estimate_75 : decode cX5_estimate 75 = .ok (.goto 15, 3) := by decide +kernel
theorem dX5_estimate_78 : decode cX5_estimate 78 = .ok (.aload_n 0, 1) := by decide +kernel
theorem dX5_estimate_79 : decode cX5_estimate 79 = .ok (.iload_n 1, 1) := by decide +kernel
theorem dX5_estimate_80 : decode cX5_estimate 80 = .ok (.iload_n 2, 1) := by decide +kernel
theorem dX5_estimate_81 : decode cX5_estimate 81 = .ok (.invokevirtual 163, 3) := by decide +kernel
theorem dX5_estimate_84 : decode cX5_estimate 84 = .ok (.iload 5, 2) := by decide +kernel
theorem dX5_estimate_86 : decode cX5_estimate 86 = .ok (.iload_n 3, 1) := by decide +kernel
theorem dX5_estimate_87 : decode cX5_estimate 87 = .ok (.invokestatic 131, 3) := by decide +kernel
theorem dX5_estimate_90 : decode cX5_estimate 90 = .ok (.ireturn, 1) := by decide +kernel
set_option maxRecDepth 20000 in
theorem ggX5_doubt_X5_isDay : GoodIn wsX5_doubt wsX5_isDay := goodIn_r _ [6, 7, 8, 5, 9] (by decide +kernel) (by decide +kernel)
set_option maxRecDepth 20000 in
theorem gX5_doubt_X5_isDay : GoodIn wsX5_doubt (va_wsS RX5 84 yX5_isDay wsX5_isDay) := goodIn_app (goodIn_of _ (by decide +kernel)) ggX5_doubt_X5_isDay
set_option maxRecDepth 20000 in
theorem ggX5_doubt_X5_in : GoodIn wsX5_doubt wsX5_in := goodIn_r _ [9] (by decide +kernel) (by decide +kernel)
set_option maxRecDepth 20000 in
theorem gX5_doubt_X5_in : GoodIn wsX5_doubt (va_wsS RX5 57 yX5_in wsX5_in) := goodIn_app (goodIn_of _ (by decide +kernel)) ggX5_doubt_X5_in
set_option maxRecDepth 20000 in
theorem ggX5_doubt_X5_workingOn : GoodIn wsX5_doubt wsX5_workingOn := goodIn_r _ [13, 1, 14, 2, 66, 67, 68, 69, 70, 71, 72, 73, 74, 75, 76, 77, 78, 79, 80, 81, 82, 83, 84] (by decide +kernel) (by decide +kernel)
set_option maxRecDepth 20000 in
theorem gX5_doubt_X5_workingOn : GoodIn wsX5_doubt (wsV RX5 93 RX5 yX5_workingOn wsX5_workingOn) := goodIn_app (goodIn_of _ (by decide +kernel)) ggX5_doubt_X5_workingOn
set_option maxRecDepth 20000 in
theorem ggX5_doubt_X5_has : GoodIn wsX5_doubt wsX5_has := goodIn_r _ [17] (by decide +kernel) (by decide +kernel)
set_option maxRecDepth 20000 in
theorem gX5_doubt_X5_has : GoodIn wsX5_doubt (va_wsS RX5 100 yX5_has wsX5_has) := goodIn_app (goodIn_of _ (by decide +kernel)) ggX5_doubt_X5_has
set_option maxRecDepth 20000 in
theorem ggX5_doubt_X5_without : GoodIn wsX5_doubt wsX5_without := goodIn_r _ [20] (by decide +kernel) (by decide +kernel)
set_option maxRecDepth 20000 in
theorem gX5_doubt_X5_without : GoodIn wsX5_doubt (va_wsS RX5 153 yX5_without wsX5_without) := goodIn_app (goodIn_of _ (by decide +kernel)) ggX5_doubt_X5_without
set_option maxRecDepth 20000 in
theorem ggX5_doubt_X5_lookUpBoth : GoodIn wsX5_doubt wsX5_lookUpBoth := goodIn_r _ [24, 25, 26, 27, 5, 28, 29, 30, 31, 32, 33, 18, 19, 20, 66, 67, 68, 69, 70, 71, 72, 73, 74, 75, 76, 77, 78, 79, 80, 81, 82, 83, 84] (by decide +kernel) (by decide +kernel)
set_option maxRecDepth 20000 in
theorem gX5_doubt_X5_lookUpBoth : GoodIn wsX5_doubt (wsV RX5 156 RX5 yX5_lookUpBoth wsX5_lookUpBoth) := goodIn_app (goodIn_of _ (by decide +kernel)) ggX5_doubt_X5_lookUpBoth
set_option maxRecDepth 20000 in
theorem ggX5_doubt_X5_size : GoodIn wsX5_doubt wsX5_size := goodIn_r _ [37, 38, 39, 40, 5, 41, 42, 43, 7, 8, 9, 44, 45, 46, 47, 1, 48, 49, 50, 51, 52, 53, 54, 55, 56, 57, 15, 16, 17, 66, 67, 68, 69, 70, 71, 72, 73, 74, 75, 76, 77, 78, 79, 80, 81, 82, 83, 84] (by decide +kernel) (by decide +kernel)
set_option maxRecDepth 20000 in
theorem gX5_doubt_X5_size : GoodIn wsX5_doubt (wsV RX5 125 RX5 yX5_size wsX5_size) := goodIn_app (goodIn_of _ (by decide +kernel)) ggX5_doubt_X5_size
set_option maxRecDepth 20000 in
theorem ggX5_doubt_X5_sharedWater : GoodIn wsX5_doubt wsX5_sharedWater := goodIn_r _ [61, 1, 2, 10, 11, 12, 5, 13, 14, 15, 16, 17, 62, 63, 64, 65, 38, 39, 40, 41, 42, 43, 7, 8, 9, 44, 45, 46, 47, 48, 49, 50, 51, 52, 53, 54, 55, 56, 57, 66, 67, 68, 69, 70, 71, 72, 73, 74, 75, 76, 77, 78, 79, 80, 81, 82, 83, 84] (by decide +kernel) (by decide +kernel)
set_option maxRecDepth 20000 in
theorem gX5_doubt_X5_sharedWater : GoodIn wsX5_doubt (wsV RX5 163 RX5 yX5_sharedWater wsX5_sharedWater) := goodIn_app (goodIn_of _ (by decide +kernel)) ggX5_doubt_X5_sharedWater
theorem dX5_doubt_0 : decode cX5_doubt 0 = .ok (.iload_n 1, 1) := by decide +kernel
theorem dX5_doubt_1 : decode cX5_doubt 1 = .ok (.invokestatic 84, 3) := by decide +kernel
theorem dX5_doubt_4 : decode cX5_doubt 4 = .ok (.ifCond .eq 14, 3) := by decide +kernel
theorem dX5_doubt_7 : decode cX5_doubt 7 = .ok (.iload_n 2, 1) := by decide +kernel
theorem dX5_doubt_8 : decode cX5_doubt 8 = .ok (.iconst 0, 1) := by decide +kernel
theorem dX5_doubt_9 : decode cX5_doubt 9 = .ok (.sipush 9999, 3) := by decide +kernel
theorem dX5_doubt_12 : decode cX5_doubt 12 = .ok (.invokestatic 57, 3) := by decide +kernel
theorem dX5_doubt_15 : decode cX5_doubt 15 = .ok (.ifCond .ne 6, 3) := by decide +kernel
theorem dX5_doubt_18 : decode cX5_doubt 18 = .ok (.bipush (-2), 2) := by decide +kernel
theorem dX5_doubt_20 : decode cX5_doubt 20 = .ok (.ireturn, 1) := by decide +kernel
theorem dX5_doubt_21 : decode cX5_doubt 21 = .ok (.aload_n 0, 1) := by decide +kernel
theorem dX5_doubt_22 : decode cX5_doubt 22 = .ok (.iload_n 1, 1) := by decide +kernel
theorem dX5_doubt_23 : decode cX5_doubt 23 = .ok (.invokevirtual 93, 3) := by decide +kernel
theorem dX5_doubt_26 : decode cX5_doubt 26 = .ok (.istore_n 3, 1) := by decide +kernel
theorem dX5_doubt_27 : decode cX5_doubt 27 = .ok (.iconst 0, 1) := by decide +kernel
theorem dX5_doubt_28 : decode cX5_doubt 28 = .ok (.istore 4, 2) := by decide +kernel
theorem dX5_doubt_30 : decode cX5_doubt 30 = .ok (.iconst 0, 1) := by decide +kernel
theorem dX5_doubt_31 : decode cX5_doubt 31 = .ok (.istore 5, 2) := by decide +kernel
theorem dX5_doubt_33 : decode cX5_doubt 33 = .ok (.iload 5, 2) := by decide +kernel
theorem dX5_doubt_35 : decode cX5_doubt 35 = .ok (.aload_n 0, 1) := by decide +kernel
theorem dX5_doubt_36 : decode cX5_doubt 36 = .ok (.getfield 53, 3) := by decide +kernel
theorem dX5_doubt_39 : decode cX5_doubt 39 = .ok (.if_icmp .ge 100, 3) := by decide +kernel
theorem dX5_doubt_42 : decode cX5_doubt 42 = .ok (.iload_n 3, 1) := by decide +kernel
theorem dX5_doubt_43 : decode cX5_doubt 43 = .ok (.iload 5, 2) := by decide +kernel
theorem dX5_doubt_45 : decode cX5_doubt 45 = .ok (.invokestatic 100, 3) := by decide +kernel
theorem dX5_doubt_48 : decode cX5_doubt 48 = .ok (.ifCond .eq 85, 3) := by decide +kernel
theorem dX5_doubt_51 : decode cX5_doubt 51 = .ok (.iload_n 3, 1) := by decide +kernel
theorem dX5_doubt_52 : decode cX5_doubt 52 = .ok (.iload 5, 2) := by decide +kernel
theorem dX5_doubt_54 : decode cX5_doubt 54 = .ok (.invokestatic 153, 3) := by decide +kernel
theorem dX5_doubt_57 : decode cX5_doubt 57 = .ok (.ifCond .eq 76, 3) := by decide +kernel
theorem dX5_doubt_60 : decode cX5_doubt 60 = .ok (.aload_n 0, 1) := by decide +kernel
theorem dX5_doubt_61 : decode cX5_doubt 61 = .ok (.iload_n 3, 1) := by decide +kernel
theorem dX5_doubt_62 : decode cX5_doubt 62 = .ok (.iload 5, 2) := by decide +kernel
theorem dX5_doubt_64 : decode cX5_doubt 64 = .ok (.invokevirtual 156, 3) := by decide +kernel
theorem dX5_doubt_67 : decode cX5_doubt 67 = .ok (.aload_n 0, 1) := by decide +kernel
theorem dX5_doubt_68 : decode cX5_doubt 68 = .ok (.iload_n 3, 1) := by decide +kernel
theorem dX5_doubt_69 : decode cX5_doubt 69 = .ok (.iload 5, 2) := by decide +kernel
theorem dX5_doubt_71 : decode cX5_doubt 71 = .ok (.invokevirtual 125, 3) := by decide +kernel
theorem dX5_doubt_74 : decode cX5_doubt 74 = .ok (.istore 6, 2) := by decide +kernel
theorem dX5_doubt_76 : decode cX5_doubt 76 = .ok (.aload_n 0, 1) := by decide +kernel
theorem dX5_doubt_77 : decode cX5_doubt 77 = .ok (.getfield 29, 3) := by decide +kernel
theorem dX5_doubt_80 : decode cX5_doubt 80 = .ok (.bipush 64, 2) := by decide +kernel
theorem dX5_doubt_82 : decode cX5_doubt 82 = .ok (.iload 5, 2) := by decide +kernel
theorem dX5_doubt_84 : decode cX5_doubt 84 = .ok (.imul, 1) := by decide +kernel
theorem dX5_doubt_85 : decode cX5_doubt 85 = .ok (.iload_n 1, 1) := by decide +kernel
theorem dX5_doubt_86 : decode cX5_doubt 86 = .ok (.iadd, 1) := by decide +kernel
theorem dX5_doubt_87 : decode cX5_doubt 87 = .ok (.iaload, 1) := by decide +kernel
theorem dX5_doubt_88 : decode cX5_doubt 88 = .ok (.iload 6, 2) := by decide +kernel
theorem dX5_doubt_90 : decode cX5_doubt 90 = .ok (.imul, 1) := by decide +kernel
theorem dX5_doubt_91 : decode cX5_doubt 91 = .ok (.aload_n 0, 1) := by decide +kernel
theorem dX5_doubt_92 : decode cX5_doubt 92 = .ok (.iload_n 1, 1) := by decide +kernel
theorem dX5_doubt_93 : decode cX5_doubt 93 = .ok (.iload 5, 2) := by decide +kernel
theorem dX5_doubt_95 : decode cX5_doubt 95 = .ok (.invokevirtual 163, 3) := by decide +kernel
theorem dX5_doubt_98 : decode cX5_doubt 98 = .ok (.isub, 1) := by decide +kernel
theorem dX5_doubt_99 : decode cX5_doubt 99 = .ok (.istore 7, 2) := by decide +kernel
theorem dX5_doubt_101 : decode cX5_doubt 101 = .ok (.iload 4, 2) := by decide +kernel
theorem dX5_doubt_103 : decode cX5_doubt 103 = .ok (.iload 7, 2) := by decide +kernel
theorem dX5_doubt_105 : decode cX5_doubt 105 = .ok (.iload_n 2, 1) := by decide +kernel
theorem dX5_doubt_106 : decode cX5_doubt 106 = .ok (.iload 6, 2) := by decide +kernel
theorem dX5_doubt_108 : decode cX5_doubt 108 = .ok (.imul, 1) := by decide +kernel
theorem dX5_doubt_109 : decode cX5_doubt 109 = .ok (.if_icmp .gt 13, 3) := by decide +kernel
theorem dX5_doubt_112 : decode cX5_doubt 112 = .ok (.iload 7, 2) := by decide +kernel
theorem dX5_doubt_114 : decode cX5_doubt 114 = .ok (.ineg, 1) := by decide +kernel
theorem dX5_doubt_115 : decode cX5_doubt 115 = .ok (.iload_n 2, 1) := by decide +kernel
theorem dX5_doubt_116 : decode cX5_doubt 116 = .ok (.iload 6, 2) := by decide +kernel
theorem dX5_doubt_118 : decode cX5_doubt 118 = .ok (.imul, 1) := by decide +kernel
theorem dX5_doubt_119 : decode cX5_doubt 119 = .ok (.if_icmp .le 10, 3) := by decide +kernel
theorem dX5_doubt_122 : decode cX5_doubt 122 = .ok (.iconst 1, 1) := by decide +kernel
theorem dX5_doubt_123 : decode cX5_doubt 123 = .ok (.iload 5, 2) := by decide +kernel
theorem dX5_doubt_125 : decode cX5_doubt 125 = .ok (.ishl, 1) := by decide +kernel
theorem dX5_doubt_126 : decode cX5_doubt 126 = .ok (.goto 4, 3) := by decide +kernel
theorem dX5_doubt_129 : decode cX5_doubt 129 = .ok (.iconst 0, 1) := by decide +kernel
theorem dX5_doubt_130 : decode cX5_doubt 130 = .ok (.ior, 1) := by decide +kernel
theorem dX5_doubt_131 : decode cX5_doubt 131 = .ok (.istore 4, 2) := by decide +kernel
theorem dX5_doubt_133 : decode cX5_doubt 133 = .ok (.iinc 5 1, 3) := by decide +kernel
theorem dX5_doubt_136 : decode cX5_doubt 136 = .ok (.goto (-103), 3) := by decide +kernel
theorem dX5_doubt_139 : decode cX5_doubt 139 = .ok (.iload 4, 2) := by decide +kernel
theorem dX5_doubt_141 : decode cX5_doubt 141 = .ok (.ireturn, 1) := by decide +kernel
set_option maxRecDepth 20000 in
theorem ggX5_kept_X5_in : GoodIn wsX5_kept wsX5_in := goodIn_r _ [6] (by decide +kernel) (by decide +kernel)
set_option maxRecDepth 20000 in
theorem gX5_kept_X5_in : GoodIn wsX5_kept (va_wsS RX5 57 yX5_in wsX5_in) := goodIn_app (goodIn_of _ (by decide +kernel)) ggX5_kept_X5_in
theorem dX5_kept_0 : decode cX5_kept 0 = .ok (.iload_n 1, 1) := by decide +kernel
theorem dX5_kept_1 : decode cX5_kept 1 = .ok (.iconst 0, 1) := by decide +kernel
theorem dX5_kept_2 : decode cX5_kept 2 = .ok (.aload_n 0, 1) := by decide +kernel
theorem dX5_kept_3 : decode cX5_kept 3 = .ok (.getfield 61, 3) := by decide +kernel
theorem dX5_kept_6 : decode cX5_kept 6 = .ok (.iconst 1, 1) := by decide +kernel
theorem dX5_kept_7 : decode cX5_kept 7 = .ok (.isub, 1) := by decide +kernel
theorem dX5_kept_8 : decode cX5_kept 8 = .ok (.invokestatic 57, 3) := by decide +kernel
theorem dX5_kept_11 : decode cX5_kept 11 = .ok (.ifCond .eq 12, 3) := by decide +kernel
theorem dX5_kept_14 : decode cX5_kept 14 = .ok (.aload_n 0, 1) := by decide +kernel
theorem dX5_kept_15 : decode cX5_kept 15 = .ok (.getfield 32, 3) := by decide +kernel
theorem dX5_kept_18 : decode cX5_kept 18 = .ok (.iload_n 1, 1) := by decide +kernel
theorem dX5_kept_19 : decode cX5_kept 19 = .ok (.iaload, 1) := by decide +kernel
theorem dX5_kept_20 : decode cX5_kept 20 = .ok (.goto 5, 3) := by decide +kernel
theorem dX5_kept_23 : decode cX5_kept 23 = .ok (.bipush (-6), 2) := by decide +kernel
theorem dX5_kept_25 : decode cX5_kept 25 = .ok (.ireturn, 1) := by decide +kernel
set_option maxRecDepth 20000 in
theorem ggX5_image_X5_in : GoodIn wsX5_image wsX5_in := goodIn_r _ [18] (by decide +kernel) (by decide +kernel)
set_option maxRecDepth 20000 in
theorem gX5_image_X5_in : GoodIn wsX5_image (va_wsS RX5 57 yX5_in wsX5_in) := goodIn_app (goodIn_of _ (by decide +kernel)) ggX5_image_X5_in
theorem dX5_image_0 : decode cX5_image 0 = .ok (.iload_n 1, 1) := by decide +kernel
theorem dX5_image_1 : decode cX5_image 1 = .ok (.iconst 0, 1) := by decide +kernel
theorem dX5_image_2 : decode cX5_image 2 = .ok (.iconst 1, 1) := by decide +kernel
theorem dX5_image_3 : decode cX5_image 3 = .ok (.invokestatic 57, 3) := by decide +kernel
theorem dX5_image_6 : decode cX5_image 6 = .ok (.ifCond .ne 6, 3) := by decide +kernel
theorem dX5_image_9 : decode cX5_image 9 = .ok (.bipush (-2), 2) := by decide +kernel
theorem dX5_image_11 : decode cX5_image 11 = .ok (.ireturn, 1) := by decide +kernel
theorem dX5_image_12 : decode cX5_image 12 = .ok (.iconst 0, 1) := by decide +kernel
theorem dX5_image_13 : decode cX5_image 13 = .ok (.istore_n 2, 1) := by decide +kernel
theorem dX5_image_14 : decode cX5_image 14 = .ok (.iload_n 2, 1) := by decide +kernel
theorem dX5_image_15 : decode cX5_image 15 = .ok (.bipush 16, 2) := by decide +kernel
theorem dX5_image_17 : decode cX5_image 17 = .ok (.if_icmp .ge 46, 3) := by decide +kernel
theorem dX5_image_20 : decode cX5_image 20 = .ok (.aload_n 0, 1) := by decide +kernel
theorem dX5_image_21 : decode cX5_image 21 = .ok (.getfield 38, 3) := by decide +kernel
theorem dX5_image_24 : decode cX5_image 24 = .ok (.bipush 32, 2) := by decide +kernel
theorem dX5_image_26 : decode cX5_image 26 = .ok (.iload_n 1, 1) := by decide +kernel
theorem dX5_image_27 : decode cX5_image 27 = .ok (.imul, 1) := by decide +kernel
theorem dX5_image_28 : decode cX5_image 28 = .ok (.iload_n 2, 1) := by decide +kernel
theorem dX5_image_29 : decode cX5_image 29 = .ok (.iadd, 1) := by decide +kernel
theorem dX5_image_30 : decode cX5_image 30 = .ok (.aload_n 0, 1) := by decide +kernel
theorem dX5_image_31 : decode cX5_image 31 = .ok (.getfield 7, 3) := by decide +kernel
theorem dX5_image_34 : decode cX5_image 34 = .ok (.iload_n 2, 1) := by decide +kernel
theorem dX5_image_35 : decode cX5_image 35 = .ok (.iaload, 1) := by decide +kernel
theorem dX5_image_36 : decode cX5_image 36 = .ok (.iastore, 1) := by decide +kernel
theorem dX5_image_37 : decode cX5_image 37 = .ok (.aload_n 0, 1) := by decide +kernel
theorem dX5_image_38 : decode cX5_image 38 = .ok (.getfield 38, 3) := by decide +kernel
theorem dX5_image_41 : decode cX5_image 41 = .ok (.bipush 32, 2) := by decide +kernel
theorem dX5_image_43 : decode cX5_image 43 = .ok (.iload_n 1, 1) := by decide +kernel
theorem dX5_image_44 : decode cX5_image 44 = .ok (.imul, 1) := by decide +kernel
theorem dX5_image_45 : decode cX5_image 45 = .ok (.bipush 16, 2) := by decide +kernel
theorem dX5_image_47 : decode cX5_image 47 = .ok (.iadd, 1) := by decide +kernel
theorem dX5_image_48 : decode cX5_image 48 = .ok (.iload_n 2, 1) := by decide +kernel
theorem dX5_image_49 : decode cX5_image 49 = .ok (.iadd, 1) := by decide +kernel
theorem dX5_image_50 : decode cX5_image 50 = .ok (.aload_n 0, 1) := by decide +kernel
theorem dX5_image_51 : decode cX5_image 51 = .ok (.getfield 13, 3) := by decide +kernel
theorem dX5_image_54 : decode cX5_image 54 = .ok (.iload_n 2, 1) := by decide +kernel
theorem dX5_image_55 : decode cX5_image 55 = .ok (.iaload, 1) := by decide +kernel
theorem dX5_image_56 : decode cX5_image 56 = .ok (.iastore, 1) := by decide +kernel
theorem dX5_image_57 : decode cX5_image 57 = .ok (.iinc 2 1, 3) := by decide +kernel
theorem dX5_image_60 : decode cX5_image 60 = .ok (.goto (-46), 3) := by decide +kernel
theorem dX5_image_63 : decode cX5_image 63 = .ok (.iconst 0, 1) := by decide +kernel
theorem dX5_image_64 : decode cX5_image 64 = .ok (.istore_n 2, 1) := by decide +kernel
theorem dX5_image_65 : decode cX5_image 65 = .ok (.iload_n 2, 1) := by decide +kernel
theorem dX5_image_66 : decode cX5_image 66 = .ok (.bipush 8, 2) := by decide +kernel
theorem dX5_image_68 : decode cX5_image 68 = .ok (.if_icmp .ge 70, 3) := by decide +kernel
theorem dX5_image_71 : decode cX5_image 71 = .ok (.aload_n 0, 1) := by decide +kernel
theorem dX5_image_72 : decode cX5_image 72 = .ok (.getfield 44, 3) := by decide +kernel
theorem dX5_image_75 : decode cX5_image 75 = .ok (.bipush 24, 2) := by decide +kernel
theorem dX5_image_77 : decode cX5_image 77 = .ok (.iload_n 1, 1) := by decide +kernel
theorem dX5_image_78 : decode cX5_image 78 = .ok (.imul, 1) := by decide +kernel
theorem dX5_image_79 : decode cX5_image 79 = .ok (.iconst 3, 1) := by decide +kernel
theorem dX5_image_80 : decode cX5_image 80 = .ok (.iload_n 2, 1) := by decide +kernel
theorem dX5_image_81 : decode cX5_image 81 = .ok (.imul, 1) := by decide +kernel
theorem dX5_image_82 : decode cX5_image 82 = .ok (.iadd, 1) := by decide +kernel
theorem dX5_image_83 : decode cX5_image 83 = .ok (.aload_n 0, 1) := by decide +kernel
theorem dX5_image_84 : decode cX5_image 84 = .ok (.getfield 16, 3) := by decide +kernel
theorem dX5_image_87 : decode cX5_image 87 = .ok (.iload_n 2, 1) := by decide +kernel
theorem dX5_image_88 : decode cX5_image 88 = .ok (.iaload, 1) := by decide +kernel
theorem dX5_image_89 : decode cX5_image 89 = .ok (.iastore, 1) := by decide +kernel
theorem dX5_image_90 : decode cX5_image 90 = .ok (.aload_n 0, 1) := by decide +kernel
theorem dX5_image_91 : decode cX5_image 91 = .ok (.getfield 44, 3) := by decide +kernel
theorem dX5_image_94 : decode cX5_image 94 = .ok (.bipush 24, 2) := by decide +kernel
theorem dX5_image_96 : decode cX5_image 96 = .ok (.iload_n 1, 1) := by decide +kernel
theorem dX5_image_97 : decode cX5_image 97 = .ok (.imul, 1) := by decide +kernel
theorem dX5_image_98 : decode cX5_image 98 = .ok (.iconst 3, 1) := by decide +kernel
theorem dX5_image_99 : decode cX5_image 99 = .ok (.iload_n 2, 1) := by decide +kernel
theorem dX5_image_100 : decode cX5_image 100 = .ok (.imul, 1) := by decide +kernel
theorem dX5_image_101 : decode cX5_image 101 = .ok (.iadd, 1) := by decide +kernel
theorem dX5_image_102 : decode cX5_image 102 = .ok (.iconst 1, 1) := by decide +kernel
theorem dX5_image_103 : decode cX5_image 103 = .ok (.iadd, 1) := by decide +kernel
theorem dX5_image_104 : decode cX5_image 104 = .ok (.aload_n 0, 1) := by decide +kernel
theorem dX5_image_105 : decode cX5_image 105 = .ok (.getfield 19, 3) := by decide +kernel
theorem dX5_image_108 : decode cX5_image 108 = .ok (.iload_n 2, 1) := by decide +kernel
theorem dX5_image_109 : decode cX5_image 109 = .ok (.iaload, 1) := by decide +kernel
theorem dX5_image_110 : decode cX5_image 110 = .ok (.iastore, 1) := by decide +kernel
theorem dX5_image_111 : decode cX5_image 111 = .ok (.aload_n 0, 1) := by decide +kernel
theorem dX5_image_112 : decode cX5_image 112 = .ok (.getfield 44, 3) := by decide +kernel
theorem dX5_image_115 : decode cX5_image 115 = .ok (.bipush 24, 2) := by decide +kernel
theorem dX5_image_117 : decode cX5_image 117 = .ok (.iload_n 1, 1) := by decide +kernel
theorem dX5_image_118 : decode cX5_image 118 = .ok (.imul, 1) := by decide +kernel
theorem dX5_image_119 : decode cX5_image 119 = .ok (.iconst 3, 1) := by decide +kernel
theorem dX5_image_120 : decode cX5_image 120 = .ok (.iload_n 2, 1) := by decide +kernel
theorem dX5_image_121 : decode cX5_image 121 = .ok (.imul, 1) := by decide +kernel
theorem dX5_image_122 : decode cX5_image 122 = .ok (.iadd, 1) := by decide +kernel
theorem dX5_image_123 : decode cX5_image 123 = .ok (.iconst 2, 1) := by decide +kernel
theorem dX5_image_124 : decode cX5_image 124 = .ok (.iadd, 1) := by decide +kernel
theorem dX5_image_125 : decode cX5_image 125 = .ok (.aload_n 0, 1) := by decide +kernel
theorem dX5_image_126 : decode cX5_image 126 = .ok (.getfield 22, 3) := by decide +kernel
theorem dX5_image_129 : decode cX5_image 129 = .ok (.iload_n 2, 1) := by decide +kernel
theorem dX5_image_130 : decode cX5_image 130 = .ok (.iaload, 1) := by decide +kernel
theorem dX5_image_131 : decode cX5_image 131 = .ok (.iastore, 1) := by decide +kernel
theorem dX5_image_132 : decode cX5_image 132 = .ok (.iinc 2 1, 3) := by decide +kernel
theorem dX5_image_135 : decode cX5_image 135 = .ok (.goto (-70), 3) := by decide +kernel
theorem dX5_image_138 : decode cX5_image 138 = .ok (.iconst 0, 1) := by decide +kernel
theorem dX5_image_139 : decode cX5_image 139 = .ok (.istore_n 2, 1) := by decide +kernel
theorem dX5_image_140 : decode cX5_image 140 = .ok (.iload_n 2, 1) := by decide +kernel
theorem dX5_image_141 : decode cX5_image 141 = .ok (.sipush 512, 3) := by decide +kernel
theorem dX5_image_144 : decode cX5_image 144 = .ok (.if_icmp .ge 45, 3) := by decide +kernel
theorem dX5_image_147 : decode cX5_image 147 = .ok (.aload_n 0, 1) := by decide +kernel
theorem dX5_image_148 : decode cX5_image 148 = .ok (.getfield 47, 3) := by decide +kernel
theorem dX5_image_151 : decode cX5_image 151 = .ok (.sipush 512, 3) := by decide +kernel
theorem dX5_image_154 : decode cX5_image 154 = .ok (.iload_n 1, 1) := by decide +kernel
theorem dX5_image_155 : decode cX5_image 155 = .ok (.imul, 1) := by decide +kernel
theorem dX5_image_156 : decode cX5_image 156 = .ok (.iload_n 2, 1) := by decide +kernel
theorem dX5_image_157 : decode cX5_image 157 = .ok (.iadd, 1) := by decide +kernel
theorem dX5_image_158 : decode cX5_image 158 = .ok (.aload_n 0, 1) := by decide +kernel
theorem dX5_image_159 : decode cX5_image 159 = .ok (.getfield 25, 3) := by decide +kernel
theorem dX5_image_162 : decode cX5_image 162 = .ok (.iload_n 2, 1) := by decide +kernel
theorem dX5_image_163 : decode cX5_image 163 = .ok (.baload, 1) := by decide +kernel
theorem dX5_image_164 : decode cX5_image 164 = .ok (.bastore, 1) := by decide +kernel
theorem dX5_image_165 : decode cX5_image 165 = .ok (.aload_n 0, 1) := by decide +kernel
theorem dX5_image_166 : decode cX5_image 166 = .ok (.getfield 50, 3) := by decide +kernel
theorem dX5_image_169 : decode cX5_image 169 = .ok (.sipush 512, 3) := by decide +kernel
theorem dX5_image_172 : decode cX5_image 172 = .ok (.iload_n 1, 1) := by decide +kernel
theorem dX5_image_173 : decode cX5_image 173 = .ok (.imul, 1) := by decide +kernel
theorem dX5_image_174 : decode cX5_image 174 = .ok (.iload_n 2, 1) := by decide +kernel
theorem dX5_image_175 : decode cX5_image 175 = .ok (.iadd, 1) := by decide +kernel
theorem dX5_image_176 : decode cX5_image 176 = .ok (.aload_n 0, 1) := by decide +kernel
theorem dX5_image_177 : decode cX5_image 177 = .ok (.getfield 29, 3) := by decide +kernel
theorem dX5_image_180 : decode cX5_image 180 = .ok (.iload_n 2, 1) := by decide +kernel
theorem dX5_image_181 : decode cX5_image 181 = .ok (.iaload, 1) := by decide +kernel
theorem dX5_image_182 : decode cX5_image 182 = .ok (.iastore, 1) := by decide +kernel
theorem dX5_image_183 : decode cX5_image 183 = .ok (.iinc 2 1, 3) := by decide +kernel
theorem dX5_image_186 : decode cX5_image 186 = .ok (.goto (-46), 3) := by decide +kernel
theorem dX5_image_189 : decode cX5_image 189 = .ok (.aload_n 0, 1) := by decide +kernel
theorem dX5_image_190 : decode cX5_image 190 = .ok (.getfield 41, 3) := by decide +kernel
theorem dX5_image_193 : decode cX5_image 193 = .ok (.iload_n 1, 1) := by decide +kernel
theorem dX5_image_194 : decode cX5_image 194 = .ok (.aload_n 0, 1) := by decide +kernel
theorem dX5_image_195 : decode cX5_image 195 = .ok (.getfield 53, 3) := by decide +kernel
theorem dX5_image_198 : decode cX5_image 198 = .ok (.iastore, 1) := by decide +kernel
theorem dX5_image_199 : decode cX5_image 199 = .ok (.aload_n 0, 1) := by decide +kernel
theorem dX5_image_200 : decode cX5_image 200 = .ok (.getfield 35, 3) := by decide +kernel
theorem dX5_image_203 : decode cX5_image 203 = .ok (.iload_n 1, 1) := by decide +kernel
theorem dX5_image_204 : decode cX5_image 204 = .ok (.iconst 1, 1) := by decide +kernel
theorem dX5_image_205 : decode cX5_image 205 = .ok (.bastore, 1) := by decide +kernel
theorem dX5_image_206 : decode cX5_image 206 = .ok (.iconst 1, 1) := by decide +kernel
theorem dX5_image_207 : decode cX5_image 207 = .ok (.ireturn, 1) := by decide +kernel
set_option maxRecDepth 20000 in
theorem ggX5_restore_X5_in : GoodIn wsX5_restore wsX5_in := goodIn_r _ [19] (by decide +kernel) (by decide +kernel)
set_option maxRecDepth 20000 in
theorem gX5_restore_X5_in : GoodIn wsX5_restore (va_wsS RX5 57 yX5_in wsX5_in) := goodIn_app (goodIn_of _ (by decide +kernel)) ggX5_restore_X5_in
theorem dX5_restore_0 : decode cX5_restore 0 = .ok (.iload_n 1, 1) := by decide +kernel
theorem dX5_restore_1 : decode cX5_restore 1 = .ok (.iconst 0, 1) := by decide +kernel
theorem dX5_restore_2 : decode cX5_restore 2 = .ok (.iconst 1, 1) := by decide +kernel
theorem dX5_restore_3 : decode cX5_restore 3 = .ok (.invokestatic 57, 3) := by decide +kernel
theorem dX5_restore_6 : decode cX5_restore 6 = .ok (.ifCond .ne 6, 3) := by decide +kernel
theorem dX5_restore_9 : decode cX5_restore 9 = .ok (.bipush (-2), 2) := by decide +kernel
theorem dX5_restore_11 : decode cX5_restore 11 = .ok (.ireturn, 1) := by decide +kernel
theorem dX5_restore_12 : decode cX5_restore 12 = .ok (.aload_n 0, 1) := by decide +kernel
theorem dX5_restore_13 : decode cX5_restore 13 = .ok (.getfield 35, 3) := by decide +kernel
theorem dX5_restore_16 : decode cX5_restore 16 = .ok (.iload_n 1, 1) := by decide +kernel
theorem dX5_restore_17 : decode cX5_restore 17 = .ok (.baload, 1) := by decide +kernel
theorem dX5_restore_18 : decode cX5_restore 18 = .ok (.ifCond .ne 6, 3) := by decide +kernel
theorem dX5_restore_21 : decode cX5_restore 21 = .ok (.bipush (-3), 2) := by decide +kernel
theorem dX5_restore_23 : decode cX5_restore 23 = .ok (.ireturn, 1) := by decide +kernel
theorem dX5_restore_24 : decode cX5_restore 24 = .ok (.iconst 0, 1) := by decide +kernel
theorem dX5_restore_25 : decode cX5_restore 25 = .ok (.istore_n 2, 1) := by decide +kernel
theorem dX5_restore_26 : decode cX5_restore 26 = .ok (.iload_n 2, 1) := by decide +kernel
theorem dX5_restore_27 : decode cX5_restore 27 = .ok (.bipush 16, 2) := by decide +kernel
theorem dX5_restore_29 : decode cX5_restore 29 = .ok (.if_icmp .ge 46, 3) := by decide +kernel
theorem dX5_restore_32 : decode cX5_restore 32 = .ok (.aload_n 0, 1) := by decide +kernel
theorem dX5_restore_33 : decode cX5_restore 33 = .ok (.getfield 7, 3) := by decide +kernel
theorem dX5_restore_36 : decode cX5_restore 36 = .ok (.iload_n 2, 1) := by decide +kernel
theorem dX5_restore_37 : decode cX5_restore 37 = .ok (.aload_n 0, 1) := by decide +kernel
theorem dX5_restore_38 : decode cX5_restore 38 = .ok (.getfield 38, 3) := by decide +kernel
theorem dX5_restore_41 : decode cX5_restore 41 = .ok (.bipush 32, 2) := by decide +kernel
theorem dX5_restore_43 : decode cX5_restore 43 = .ok (.iload_n 1, 1) := by decide +kernel
theorem dX5_restore_44 : decode cX5_restore 44 = .ok (.imul, 1) := by decide +kernel
theorem dX5_restore_45 : decode cX5_restore 45 = .ok (.iload_n 2, 1) := by decide +kernel
theorem dX5_restore_46 : decode cX5_restore 46 = .ok (.iadd, 1) := by decide +kernel
theorem dX5_restore_47 : decode cX5_restore 47 = .ok (.iaload, 1) := by decide +kernel
theorem dX5_restore_48 : decode cX5_restore 48 = .ok (.iastore, 1) := by decide +kernel
theorem dX5_restore_49 : decode cX5_restore 49 = .ok (.aload_n 0, 1) := by decide +kernel
theorem dX5_restore_50 : decode cX5_restore 50 = .ok (.getfield 13, 3) := by decide +kernel
theorem dX5_restore_53 : decode cX5_restore 53 = .ok (.iload_n 2, 1) := by decide +kernel
theorem dX5_restore_54 : decode cX5_restore 54 = .ok (.aload_n 0, 1) := by decide +kernel
theorem dX5_restore_55 : decode cX5_restore 55 = .ok (.getfield 38, 3) := by decide +kernel
theorem dX5_restore_58 : decode cX5_restore 58 = .ok (.bipush 32, 2) := by decide +kernel
theorem dX5_restore_60 : decode cX5_restore 60 = .ok (.iload_n 1, 1) := by decide +kernel
theorem dX5_restore_61 : decode cX5_restore 61 = .ok (.imul, 1) := by decide +kernel
theorem dX5_restore_62 : decode cX5_restore 62 = .ok (.bipush 16, 2) := by decide +kernel
theorem dX5_restore_64 : decode cX5_restore 64 = .ok (.iadd, 1) := by decide +kernel
theorem dX5_restore_65 : decode cX5_restore 65 = .ok (.iload_n 2, 1) := by decide +kernel
theorem dX5_restore_66 : decode cX5_restore 66 = .ok (.iadd, 1) := by decide +kernel
theorem dX5_restore_67 : decode cX5_restore 67 = .ok (.iaload, 1) := by decide +kernel
theorem dX5_restore_68 : decode cX5_restore 68 = .ok (.iastore, 1) := by decide +kernel
theorem dX5_restore_69 : decode cX5_restore 69 = .ok (.iinc 2 1, 3) := by decide +kernel
theorem dX5_restore_72 : decode cX5_restore 72 = .ok (.goto (-46), 3) := by decide +kernel
theorem dX5_restore_75 : decode cX5_restore 75 = .ok (.iconst 0, 1) := by decide +kernel
theorem dX5_restore_76 : decode cX5_restore 76 = .ok (.istore_n 2, 1) := by decide +kernel
theorem dX5_restore_77 : decode cX5_restore 77 = .ok (.iload_n 2, 1) := by decide +kernel
theorem dX5_restore_78 : decode cX5_restore 78 = .ok (.bipush 8, 2) := by decide +kernel
theorem dX5_restore_80 : decode cX5_restore 80 = .ok (.if_icmp .ge 70, 3) := by decide +kernel
theorem dX5_restore_83 : decode cX5_restore 83 = .ok (.aload_n 0, 1) := by decide +kernel
theorem dX5_restore_84 : decode cX5_restore 84 = .ok (.getfield 16, 3) := by decide +kernel
theorem dX5_restore_87 : decode cX5_restore 87 = .ok (.iload_n 2, 1) := by decide +kernel
theorem dX5_restore_88 : decode cX5_restore 88 = .ok (.aload_n 0, 1) := by decide +kernel
theorem dX5_restore_89 : decode cX5_restore 89 = .ok (.getfield 44, 3) := by decide +kernel
theorem dX5_restore_92 : decode cX5_restore 92 = .ok (.bipush 24, 2) := by decide +kernel
theorem dX5_restore_94 : decode cX5_restore 94 = .ok (.iload_n 1, 1) := by decide +kernel
theorem dX5_restore_95 : decode cX5_restore 95 = .ok (.imul, 1) := by decide +kernel
theorem dX5_restore_96 : decode cX5_restore 96 = .ok (.iconst 3, 1) := by decide +kernel
theorem dX5_restore_97 : decode cX5_restore 97 = .ok (.iload_n 2, 1) := by decide +kernel
theorem dX5_restore_98 : decode cX5_restore 98 = .ok (.imul, 1) := by decide +kernel
theorem dX5_restore_99 : decode cX5_restore 99 = .ok (.iadd, 1) := by decide +kernel
theorem dX5_restore_100 : decode cX5_restore 100 = .ok (.iaload, 1) := by decide +kernel
theorem dX5_restore_101 : decode cX5_restore 101 = .ok (.iastore, 1) := by decide +kernel
theorem dX5_restore_102 : decode cX5_restore 102 = .ok (.aload_n 0, 1) := by decide +kernel
theorem dX5_restore_103 : decode cX5_restore 103 = .ok (.getfield 19, 3) := by decide +kernel
theorem dX5_restore_106 : decode cX5_restore 106 = .ok (.iload_n 2, 1) := by decide +kernel
theorem dX5_restore_107 : decode cX5_restore 107 = .ok (.aload_n 0, 1) := by decide +kernel
theorem dX5_restore_108 : decode cX5_restore 108 = .ok (.getfield 44, 3) := by decide +kernel
theorem dX5_restore_111 : decode cX5_restore 111 = .ok (.bipush 24, 2) := by decide +kernel
theorem dX5_restore_113 : decode cX5_restore 113 = .ok (.iload_n 1, 1) := by decide +kernel
theorem dX5_restore_114 : decode cX5_restore 114 = .ok (.imul, 1) := by decide +kernel
theorem dX5_restore_115 : decode cX5_restore 115 = .ok (.iconst 3, 1) := by decide +kernel
theorem dX5_restore_116 : decode cX5_restore 116 = .ok (.iload_n 2, 1) := by decide +kernel
theorem dX5_restore_117 : decode cX5_restore 117 = .ok (.imul, 1) := by decide +kernel
theorem dX5_restore_118 : decode cX5_restore 118 = .ok (.iadd, 1) := by decide +kernel
theorem dX5_restore_119 : decode cX5_restore 119 = .ok (.iconst 1, 1) := by decide +kernel
theorem dX5_restore_120 : decode cX5_restore 120 = .ok (.iadd, 1) := by decide +kernel
theorem dX5_restore_121 : decode cX5_restore 121 = .ok (.iaload, 1) := by decide +kernel
theorem dX5_restore_122 : decode cX5_restore 122 = .ok (.iastore, 1) := by decide +kernel
theorem dX5_restore_123 : decode cX5_restore 123 = .ok (.aload_n 0, 1) := by decide +kernel
theorem dX5_restore_124 : decode cX5_restore 124 = .ok (.getfield 22, 3) := by decide +kernel
theorem dX5_restore_127 : decode cX5_restore 127 = .ok (.iload_n 2, 1) := by decide +kernel
theorem dX5_restore_128 : decode cX5_restore 128 = .ok (.aload_n 0, 1) := by decide +kernel
theorem dX5_restore_129 : decode cX5_restore 129 = .ok (.getfield 44, 3) := by decide +kernel
theorem dX5_restore_132 : decode cX5_restore 132 = .ok (.bipush 24, 2) := by decide +kernel
theorem dX5_restore_134 : decode cX5_restore 134 = .ok (.iload_n 1, 1) := by decide +kernel
theorem dX5_restore_135 : decode cX5_restore 135 = .ok (.imul, 1) := by decide +kernel
theorem dX5_restore_136 : decode cX5_restore 136 = .ok (.iconst 3, 1) := by decide +kernel
theorem dX5_restore_137 : decode cX5_restore 137 = .ok (.iload_n 2, 1) := by decide +kernel
theorem dX5_restore_138 : decode cX5_restore 138 = .ok (.imul, 1) := by decide +kernel
theorem dX5_restore_139 : decode cX5_restore 139 = .ok (.iadd, 1) := by decide +kernel
theorem dX5_restore_140 : decode cX5_restore 140 = .ok (.iconst 2, 1) := by decide +kernel
theorem dX5_restore_141 : decode cX5_restore 141 = .ok (.iadd, 1) := by decide +kernel
theorem dX5_restore_142 : decode cX5_restore 142 = .ok (.iaload, 1) := by decide +kernel
theorem dX5_restore_143 : decode cX5_restore 143 = .ok (.iastore, 1) := by decide +kernel
theorem dX5_restore_144 : decode cX5_restore 144 = .ok (.iinc 2 1, 3) := by decide +kernel
theorem dX5_restore_147 : decode cX5_restore 147 = .ok (.goto (-70), 3) := by decide +kernel
theorem dX5_restore_150 : decode cX5_restore 150 = .ok (.iconst 0, 1) := by decide +kernel
theorem dX5_restore_151 : decode cX5_restore 151 = .ok (.istore_n 2, 1) := by decide +kernel
theorem dX5_restore_152 : decode cX5_restore 152 = .ok (.iload_n 2, 1) := by decide +kernel
theorem dX5_restore_153 : decode cX5_restore 153 = .ok (.sipush 512, 3) := by decide +kernel
theorem dX5_restore_156 : decode cX5_restore 156 = .ok (.if_icmp .ge 45, 3) := by decide +kernel
theorem dX5_restore_159 : decode cX5_restore 159 = .ok (.aload_n 0, 1) := by decide +kernel
theorem dX5_restore_160 : decode cX5_restore 160 = .ok (.getfield 25, 3) := by decide +kernel
theorem dX5_restore_163 : decode cX5_restore 163 = .ok (.iload_n 2, 1) := by decide +kernel
theorem dX5_restore_164 : decode cX5_restore 164 = .ok (.aload_n 0, 1) := by decide +kernel
theorem dX5_restore_165 : decode cX5_restore 165 = .ok (.getfield 47, 3) := by decide +kernel
theorem dX5_restore_168 : decode cX5_restore 168 = .ok (.sipush 512, 3) := by decide +kernel
theorem dX5_restore_171 : decode cX5_restore 171 = .ok (.iload_n 1, 1) := by decide +kernel
theorem dX5_restore_172 : decode cX5_restore 172 = .ok (.imul, 1) := by decide +kernel
theorem dX5_restore_173 : decode cX5_restore 173 = .ok (.iload_n 2, 1) := by decide +kernel
theorem dX5_restore_174 : decode cX5_restore 174 = .ok (.iadd, 1) := by decide +kernel
theorem dX5_restore_175 : decode cX5_restore 175 = .ok (.baload, 1) := by decide +kernel
theorem dX5_restore_176 : decode cX5_restore 176 = .ok (.bastore, 1) := by decide +kernel
theorem dX5_restore_177 : decode cX5_restore 177 = .ok (.aload_n 0, 1) := by decide +kernel
theorem dX5_restore_178 : decode cX5_restore 178 = .ok (.getfield 29, 3) := by decide +kernel
theorem dX5_restore_181 : decode cX5_restore 181 = .ok (.iload_n 2, 1) := by decide +kernel
theorem dX5_restore_182 : decode cX5_restore 182 = .ok (.aload_n 0, 1) := by decide +kernel
theorem dX5_restore_183 : decode cX5_restore 183 = .ok (.getfield 50, 3) := by decide +kernel
theorem dX5_restore_186 : decode cX5_restore 186 = .ok (.sipush 512, 3) := by decide +kernel
theorem dX5_restore_189 : decode cX5_restore 189 = .ok (.iload_n 1, 1) := by decide +kernel
theorem dX5_restore_190 : decode cX5_restore 190 = .ok (.imul, 1) := by decide +kernel
theorem dX5_restore_191 : decode cX5_restore 191 = .ok (.iload_n 2, 1) := by decide +kernel
theorem dX5_restore_192 : decode cX5_restore 192 = .ok (.iadd, 1) := by decide +kernel
theorem dX5_restore_193 : decode cX5_restore 193 = .ok (.iaload, 1) := by decide +kernel
theorem dX5_restore_194 : decode cX5_restore 194 = .ok (.iastore, 1) := by decide +kernel
theorem dX5_restore_195 : decode cX5_restore 195 = .ok (.iinc 2 1, 3) := by decide +kernel
theorem dX5_restore_198 : decode cX5_restore 198 = .ok (.goto (-46), 3) := by decide +kernel
theorem dX5_restore_201 : decode cX5_restore 201 = .ok (.aload_n 0, 1) := by decide +kernel
theorem dX5_restore_202 : decode cX5_restore 202 = .ok (.aload_n 0, 1) := by decide +kernel
theorem dX5_restore_203 : decode cX5_restore 203 = .ok (.getfield 41, 3) := by decide +kernel
theorem dX5_restore_206 : decode cX5_restore 206 = .ok (.iload_n 1, 1) := by decide +kernel
theorem dX5_restore_207 : decode cX5_restore 207 = .ok (.iaload, 1) := by decide +kernel
theorem dX5_restore_208 : decode cX5_restore 208 = .ok (.putfield 53, 3) := by decide +kernel
theorem dX5_restore_211 : decode cX5_restore 211 = .ok (.aload_n 0, 1) := by decide +kernel
theorem dX5_restore_212 : decode cX5_restore 212 = .ok (.iconst 0, 1) := by decide +kernel
theorem dX5_restore_213 : decode cX5_restore 213 = .ok (.putfield 61, 3) := by decide +kernel
theorem dX5_restore_216 : decode cX5_restore 216 = .ok (.iconst 1, 1) := by decide +kernel
theorem dX5_restore_217 : decode cX5_restore 217 = .ok (.ireturn, 1) := by decide +kernel
set_option maxRecDepth 20000 in
theorem ggX5_count_X5_plots : GoodIn wsX5_count wsX5_plots := goodIn_r _ [13, 7, 8, 17, 18, 19, 20, 21, 22, 23, 24, 25, 26, 27, 28, 29, 30, 31, 32, 33, 34, 35] (by decide +kernel) (by decide +kernel)
set_option maxRecDepth 20000 in
theorem gX5_count_X5_plots : GoodIn wsX5_count (wsV RX5 64 RX5 yX5_plots wsX5_plots) := goodIn_app (goodIn_of _ (by decide +kernel)) ggX5_count_X5_plots
set_option maxRecDepth 20000 in
theorem ggX5_count_X5_in : GoodIn wsX5_count wsX5_in := goodIn_r _ [16] (by decide +kernel) (by decide +kernel)
set_option maxRecDepth 20000 in
theorem gX5_count_X5_in : GoodIn wsX5_count (va_wsS RX5 57 yX5_in wsX5_in) := goodIn_app (goodIn_of _ (by decide +kernel)) ggX5_count_X5_in
theorem dX5_count_0 : decode cX5_count 0 = .ok (.iload_n 1, 1) := by decide +kernel
theorem dX5_count_1 : decode cX5_count 1 = .ok (.tableswitch 103 0 6 #[43, 48, 53, 58, 63, 68, 73], 43) := by decide +kernel
theorem dX5_count_44 : decode cX5_count 44 = .ok (.aload_n 0, 1) := by decide +kernel
theorem dX5_count_45 : decode cX5_count 45 = .ok (.getfield 53, 3) := by decide +kernel
theorem dX5_count_48 : decode cX5_count 48 = .ok (.ireturn, 1) := by decide +kernel
theorem dX5_count_49 : decode cX5_count 49 = .ok (.aload_n 0, 1) := by decide +kernel
theorem dX5_count_50 : decode cX5_count 50 = .ok (.invokevirtual 64, 3) := by decide +kernel
theorem dX5_count_53 : decode cX5_count 53 = .ok (.ireturn, 1) := by decide +kernel
theorem dX5_count_54 : decode cX5_count 54 = .ok (.aload_n 0, 1) := by decide +kernel
theorem dX5_count_55 : decode cX5_count 55 = .ok (.getfield 61, 3) := by decide +kernel
theorem dX5_count_58 : decode cX5_count 58 = .ok (.ireturn, 1) := by decide +kernel
theorem dX5_count_59 : decode cX5_count 59 = .ok (.aload_n 0, 1) := by decide +kernel
theorem dX5_count_60 : decode cX5_count 60 = .ok (.getfield 103, 3) := by decide +kernel
theorem dX5_count_63 : decode cX5_count 63 = .ok (.ireturn, 1) := by decide +kernel
theorem dX5_count_64 : decode cX5_count 64 = .ok (.aload_n 0, 1) := by decide +kernel
theorem dX5_count_65 : decode cX5_count 65 = .ok (.getfield 106, 3) := by decide +kernel
theorem dX5_count_68 : decode cX5_count 68 = .ok (.ireturn, 1) := by decide +kernel
theorem dX5_count_69 : decode cX5_count 69 = .ok (.aload_n 0, 1) := by decide +kernel
theorem dX5_count_70 : decode cX5_count 70 = .ok (.getfield 109, 3) := by decide +kernel
theorem dX5_count_73 : decode cX5_count 73 = .ok (.ireturn, 1) := by decide +kernel
theorem dX5_count_74 : decode cX5_count 74 = .ok (.aload_n 0, 1) := by decide +kernel
theorem dX5_count_75 : decode cX5_count 75 = .ok (.getfield 35, 3) := by decide +kernel
theorem dX5_count_78 : decode cX5_count 78 = .ok (.iconst 0, 1) := by decide +kernel
theorem dX5_count_79 : decode cX5_count 79 = .ok (.baload, 1) := by decide +kernel
theorem dX5_count_80 : decode cX5_count 80 = .ok (.ifCond .eq 7, 3) := by decide +kernel
theorem dX5_count_83 : decode cX5_count 83 = .ok (.iconst 1, 1) := by decide +kernel
theorem dX5_count_84 : decode cX5_count 84 = .ok (.goto 4, 3) := by decide +kernel
theorem dX5_count_87 : decode cX5_count 87 = .ok (.iconst 0, 1) := by decide +kernel
theorem dX5_count_88 : decode cX5_count 88 = .ok (.aload_n 0, 1) := by decide +kernel
theorem dX5_count_89 : decode cX5_count 89 = .ok (.getfield 35, 3) := by decide +kernel
theorem dX5_count_92 : decode cX5_count 92 = .ok (.iconst 1, 1) := by decide +kernel
theorem dX5_count_93 : decode cX5_count 93 = .ok (.baload, 1) := by decide +kernel
theorem dX5_count_94 : decode cX5_count 94 = .ok (.ifCond .eq 7, 3) := by decide +kernel
theorem dX5_count_97 : decode cX5_count 97 = .ok (.iconst 2, 1) := by decide +kernel
theorem dX5_count_98 : decode cX5_count 98 = .ok (.goto 4, 3) := by decide +kernel
theorem dX5_count_101 : decode cX5_count 101 = .ok (.iconst 0, 1) := by decide +kernel
theorem dX5_count_102 : decode cX5_count 102 = .ok (.iadd, 1) := by decide +kernel
theorem dX5_count_103 : decode cX5_count 103 = .ok (.ireturn, 1) := by decide +kernel
theorem dX5_count_104 : decode cX5_count 104 = .ok (.iload_n 1, 1) := by decide +kernel
theorem dX5_count_105 : decode cX5_count 105 = .ok (.bipush 10, 2) := by decide +kernel
theorem dX5_count_107 : decode cX5_count 107 = .ok (.bipush 25, 2) := by decide +kernel
theorem dX5_count_109 : decode cX5_count 109 = .ok (.invokestatic 57, 3) := by decide +kernel
theorem dX5_count_112 : decode cX5_count 112 = .ok (.ifCond .eq 39, 3) := by decide +kernel
theorem dX5_count_115 : decode cX5_count 115 = .ok (.aload_n 0, 1) := by decide +kernel
theorem dX5_count_116 : decode cX5_count 116 = .ok (.getfield 7, 3) := by decide +kernel
theorem dX5_count_119 : decode cX5_count 119 = .ok (.iload_n 1, 1) := by decide +kernel
theorem dX5_count_120 : decode cX5_count 120 = .ok (.bipush 10, 2) := by decide +kernel
theorem dX5_count_122 : decode cX5_count 122 = .ok (.isub, 1) := by decide +kernel
theorem dX5_count_123 : decode cX5_count 123 = .ok (.iaload, 1) := by decide +kernel
theorem dX5_count_124 : decode cX5_count 124 = .ok (.aload_n 0, 1) := by decide +kernel
theorem dX5_count_125 : decode cX5_count 125 = .ok (.getfield 13, 3) := by decide +kernel
theorem dX5_count_128 : decode cX5_count 128 = .ok (.iload_n 1, 1) := by decide +kernel
theorem dX5_count_129 : decode cX5_count 129 = .ok (.bipush 10, 2) := by decide +kernel
theorem dX5_count_131 : decode cX5_count 131 = .ok (.isub, 1) := by decide +kernel
theorem dX5_count_132 : decode cX5_count 132 = .ok (.iaload, 1) := by decide +kernel
theorem dX5_count_133 : decode cX5_count 133 = .ok (.if_icmp .gt 15, 3) := by decide +kernel
theorem dX5_count_136 : decode cX5_count 136 = .ok (.aload_n 0, 1) := by decide +kernel
theorem dX5_count_137 : decode cX5_count 137 = .ok (.getfield 7, 3) := by decide +kernel
theorem dX5_count_140 : decode cX5_count 140 = .ok (.iload_n 1, 1) := by decide +kernel
theorem dX5_count_141 : decode cX5_count 141 = .ok (.bipush 10, 2) := by decide +kernel
theorem dX5_count_143 : decode cX5_count 143 = .ok (.isub, 1) := by decide +kernel
theorem dX5_count_144 : decode cX5_count 144 = .ok (.iaload, 1) := by decide +kernel
theorem dX5_count_145 : decode cX5_count 145 = .ok (.goto 5, 3) := by decide +kernel
theorem dX5_count_148 : decode cX5_count 148 = .ok (.bipush (-6), 2) := by decide +kernel
theorem dX5_count_150 : decode cX5_count 150 = .ok (.ireturn, 1) := by decide +kernel
theorem dX5_count_151 : decode cX5_count 151 = .ok (.iload_n 1, 1) := by decide +kernel
theorem dX5_count_152 : decode cX5_count 152 = .ok (.bipush 30, 2) := by decide +kernel
theorem dX5_count_154 : decode cX5_count 154 = .ok (.bipush 45, 2) := by decide +kernel
theorem dX5_count_156 : decode cX5_count 156 = .ok (.invokestatic 57, 3) := by decide +kernel
theorem dX5_count_159 : decode cX5_count 159 = .ok (.ifCond .eq 39, 3) := by decide +kernel
theorem dX5_count_162 : decode cX5_count 162 = .ok (.aload_n 0, 1) := by decide +kernel
theorem dX5_count_163 : decode cX5_count 163 = .ok (.getfield 7, 3) := by decide +kernel
theorem dX5_count_166 : decode cX5_count 166 = .ok (.iload_n 1, 1) := by decide +kernel
theorem dX5_count_167 : decode cX5_count 167 = .ok (.bipush 30, 2) := by decide +kernel
theorem dX5_count_169 : decode cX5_count 169 = .ok (.isub, 1) := by decide +kernel
theorem dX5_count_170 : decode cX5_count 170 = .ok (.iaload, 1) := by decide +kernel
theorem dX5_count_171 : decode cX5_count 171 = .ok (.aload_n 0, 1) := by decide +kernel
theorem dX5_count_172 : decode cX5_count 172 = .ok (.getfield 13, 3) := by decide +kernel
theorem dX5_count_175 : decode cX5_count 175 = .ok (.iload_n 1, 1) := by decide +kernel
theorem dX5_count_176 : decode cX5_count 176 = .ok (.bipush 30, 2) := by decide +kernel
theorem dX5_count_178 : decode cX5_count 178 = .ok (.isub, 1) := by decide +kernel
theorem dX5_count_179 : decode cX5_count 179 = .ok (.iaload, 1) := by decide +kernel
theorem dX5_count_180 : decode cX5_count 180 = .ok (.if_icmp .gt 15, 3) := by decide +kernel
theorem dX5_count_183 : decode cX5_count 183 = .ok (.aload_n 0, 1) := by decide +kernel
theorem dX5_count_184 : decode cX5_count 184 = .ok (.getfield 13, 3) := by decide +kernel
theorem dX5_count_187 : decode cX5_count 187 = .ok (.iload_n 1, 1) := by decide +kernel
theorem dX5_count_188 : decode cX5_count 188 = .ok (.bipush 30, 2) := by decide +kernel
theorem dX5_count_190 : decode cX5_count 190 = .ok (.isub, 1) := by decide +kernel
theorem dX5_count_191 : decode cX5_count 191 = .ok (.iaload, 1) := by decide +kernel
theorem dX5_count_192 : decode cX5_count 192 = .ok (.goto 5, 3) := by decide +kernel
theorem dX5_count_195 : decode cX5_count 195 = .ok (.bipush (-6), 2) := by decide +kernel
theorem dX5_count_197 : decode cX5_count 197 = .ok (.ireturn, 1) := by decide +kernel
theorem dX5_count_198 : decode cX5_count 198 = .ok (.bipush (-2), 2) := by decide +kernel
theorem dX5_count_200 : decode cX5_count 200 = .ok (.ireturn, 1) := by decide +kernel
