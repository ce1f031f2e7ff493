theorem dX4_rainOfOthers_62 : decode cX4_rainOfOthers 62 = .ok (.iload 5, 2) := by decide +kernel
theorem dX4_rainOfOthers_64 : decode cX4_rainOfOthers 64 = .ok (.ireturn, 1) := by decide +kernel
set_option maxRecDepth 20000 in
theorem ggX4_isDoubted_X1_workingOn : GoodIn wsX4_isDoubted wsX1_workingOn := goodIn_r _ [12, 13, 14, 15, 16, 17, 11, 18, 19, 20, 21, 22, 84, 85, 86, 87, 88, 89, 90, 91] (by decide +kernel) (by decide +kernel)
set_option maxRecDepth 20000 in
theorem gX4_isDoubted_X1_workingOn : GoodIn wsX4_isDoubted (wsV RX4 107 RX1 yX1_workingOn wsX1_workingOn) := goodIn_app (goodIn_of _ (by decide +kernel)) ggX4_isDoubted_X1_workingOn
set_option maxRecDepth 20000 in
theorem ggX4_isDoubted_X4_with : GoodIn wsX4_isDoubted wsX4_with := goodIn_r _ [22] (by decide +kernel) (by decide +kernel)
set_option maxRecDepth 20000 in
theorem gX4_isDoubted_X4_with : GoodIn wsX4_isDoubted (va_wsS RX4 176 yX4_with wsX4_with) := goodIn_app (goodIn_of _ (by decide +kernel)) ggX4_isDoubted_X4_with
set_option maxRecDepth 20000 in
theorem ggX4_isDoubted_X3_lookUp : GoodIn wsX4_isDoubted wsX3_lookUp := goodIn_r _ [28, 29, 30, 31, 32, 33, 34, 35, 36, 37, 27, 38, 39, 40, 41, 42, 43, 44, 45, 46, 47, 48, 49, 50, 51, 52, 53, 54, 55, 56, 21, 57, 58, 59, 60, 61, 62, 63, 64, 65, 92, 93, 94, 95, 96, 97, 98, 80, 81, 82, 83, 84, 85, 86, 87, 88, 89, 90, 91] (by decide +kernel) (by decide +kernel)
set_option maxRecDepth 20000 in
theorem gX4_isDoubted_X3_lookUp : GoodIn wsX4_isDoubted (wsV RX4 113 RX3 yX3_lookUp wsX3_lookUp) := goodIn_app (goodIn_of _ (by decide +kernel)) ggX4_isDoubted_X3_lookUp
set_option maxRecDepth 20000 in
theorem ggX4_isDoubted_X4_without : GoodIn wsX4_isDoubted wsX4_without := goodIn_r _ [68] (by decide +kernel) (by decide +kernel)
set_option maxRecDepth 20000 in
theorem gX4_isDoubted_X4_without : GoodIn wsX4_isDoubted (va_wsS RX4 173 yX4_without wsX4_without) := goodIn_app (goodIn_of _ (by decide +kernel)) ggX4_isDoubted_X4_without
set_option maxRecDepth 20000 in
theorem ggX4_isDoubted_X1_readingOf : GoodIn wsX4_isDoubted wsX1_readingOf := goodIn_r _ [18, 19, 84, 85, 86, 87, 88, 89, 90, 91] (by decide +kernel) (by decide +kernel)
set_option maxRecDepth 20000 in
theorem gX4_isDoubted_X1_readingOf : GoodIn wsX4_isDoubted (wsV RX4 97 RX1 yX1_readingOf wsX1_readingOf) := goodIn_app (goodIn_of _ (by decide +kernel)) ggX4_isDoubted_X1_readingOf
set_option maxRecDepth 20000 in
theorem ggX4_isDoubted_X4_rainOfOthers : GoodIn wsX4_isDoubted wsX4_rainOfOthers := goodIn_r _ [73, 74, 1, 69, 16, 17, 11, 18, 19, 80, 81, 82, 83, 75, 76, 77, 78, 79, 84, 85, 86, 87, 88, 89, 90, 91] (by decide +kernel) (by decide +kernel)
set_option maxRecDepth 20000 in
theorem gX4_isDoubted_X4_rainOfOthers : GoodIn wsX4_isDoubted (wsV RX4 183 RX4 yX4_rainOfOthers wsX4_rainOfOthers) := goodIn_app (goodIn_of _ (by decide +kernel)) ggX4_isDoubted_X4_rainOfOthers
theorem dX4_isDoubted_0 : decode cX4_isDoubted 0 = .ok (.aload_n 0, 1) := by decide +kernel
theorem dX4_isDoubted_1 : decode cX4_isDoubted 1 = .ok (.getfield 12, 3) := by decide +kernel
theorem dX4_isDoubted_4 : decode cX4_isDoubted 4 = .ok (.iload_n 1, 1) := by decide +kernel
theorem dX4_isDoubted_5 : decode cX4_isDoubted 5 = .ok (.invokevirtual 107, 3) := by decide +kernel
theorem dX4_isDoubted_8 : decode cX4_isDoubted 8 = .ok (.istore 4, 2) := by decide +kernel
theorem dX4_isDoubted_10 : decode cX4_isDoubted 10 = .ok (.aload_n 0, 1) := by decide +kernel
theorem dX4_isDoubted_11 : decode cX4_isDoubted 11 = .ok (.getfield 27, 3) := by decide +kernel
theorem dX4_isDoubted_14 : decode cX4_isDoubted 14 = .ok (.aload_n 0, 1) := by decide +kernel
theorem dX4_isDoubted_15 : decode cX4_isDoubted 15 = .ok (.getfield 12, 3) := by decide +kernel
theorem dX4_isDoubted_18 : decode cX4_isDoubted 18 = .ok (.iload 4, 2) := by decide +kernel
theorem dX4_isDoubted_20 : decode cX4_isDoubted 20 = .ok (.iload_n 2, 1) := by decide +kernel
theorem dX4_isDoubted_21 : decode cX4_isDoubted 21 = .ok (.invokestatic 176, 3) := by decide +kernel
theorem dX4_isDoubted_24 : decode cX4_isDoubted 24 = .ok (.invokevirtual 113, 3) := by decide +kernel
theorem dX4_isDoubted_27 : decode cX4_isDoubted 27 = .ok (.astore 5, 2) := by decide +kernel
theorem dX4_isDoubted_29 : decode cX4_isDoubted 29 = .ok (.aload_n 0, 1) := by decide +kernel
theorem dX4_isDoubted_30 : decode cX4_isDoubted 30 = .ok (.getfield 27, 3) := by decide +kernel
theorem dX4_isDoubted_33 : decode cX4_isDoubted 33 = .ok (.aload_n 0, 1) := by decide +kernel
theorem dX4_isDoubted_34 : decode cX4_isDoubted 34 = .ok (.getfield 12, 3) := by decide +kernel
theorem dX4_isDoubted_37 : decode cX4_isDoubted 37 = .ok (.iload 4, 2) := by decide +kernel
theorem dX4_isDoubted_39 : decode cX4_isDoubted 39 = .ok (.iload_n 2, 1) := by decide +kernel
theorem dX4_isDoubted_40 : decode cX4_isDoubted 40 = .ok (.invokestatic 173, 3) := by decide +kernel
theorem dX4_isDoubted_43 : decode cX4_isDoubted 43 = .ok (.invokevirtual 113, 3) := by decide +kernel
theorem dX4_isDoubted_46 : decode cX4_isDoubted 46 = .ok (.astore 6, 2) := by decide +kernel
theorem dX4_isDoubted_48 : decode cX4_isDoubted 48 = .ok (.aload 5, 2) := by decide +kernel
theorem dX4_isDoubted_50 : decode cX4_isDoubted 50 = .ok (.getfield 126, 3) := by decide +kernel
theorem dX4_isDoubted_53 : decode cX4_isDoubted 53 = .ok (.iload_n 2, 1) := by decide +kernel
theorem dX4_isDoubted_54 : decode cX4_isDoubted 54 = .ok (.iaload, 1) := by decide +kernel
theorem dX4_isDoubted_55 : decode cX4_isDoubted 55 = .ok (.istore 7, 2) := by decide +kernel
theorem dX4_isDoubted_57 : decode cX4_isDoubted 57 = .ok (.aload_n 0, 1) := by decide +kernel
theorem dX4_isDoubted_58 : decode cX4_isDoubted 58 = .ok (.getfield 12, 3) := by decide +kernel
theorem dX4_isDoubted_61 : decode cX4_isDoubted 61 = .ok (.iload_n 2, 1) := by decide +kernel
theorem dX4_isDoubted_62 : decode cX4_isDoubted 62 = .ok (.iload_n 1, 1) := by decide +kernel
theorem dX4_isDoubted_63 : decode cX4_isDoubted 63 = .ok (.invokevirtual 97, 3) := by decide +kernel
theorem dX4_isDoubted_66 : decode cX4_isDoubted 66 = .ok (.iload 7, 2) := by decide +kernel
theorem dX4_isDoubted_68 : decode cX4_isDoubted 68 = .ok (.imul, 1) := by decide +kernel
theorem dX4_isDoubted_69 : decode cX4_isDoubted 69 = .ok (.aload_n 0, 1) := by decide +kernel
theorem dX4_isDoubted_70 : decode cX4_isDoubted 70 = .ok (.iload_n 1, 1) := by decide +kernel
theorem dX4_isDoubted_71 : decode cX4_isDoubted 71 = .ok (.iload_n 2, 1) := by decide +kernel
theorem dX4_isDoubted_72 : decode cX4_isDoubted 72 = .ok (.aload 5, 2) := by decide +kernel
theorem dX4_isDoubted_74 : decode cX4_isDoubted 74 = .ok (.aload 6, 2) := by decide +kernel
theorem dX4_isDoubted_76 : decode cX4_isDoubted 76 = .ok (.invokevirtual 183, 3) := by decide +kernel
theorem dX4_isDoubted_79 : decode cX4_isDoubted 79 = .ok (.isub, 1) := by decide +kernel
theorem dX4_isDoubted_80 : decode cX4_isDoubted 80 = .ok (.istore 8, 2) := by decide +kernel
theorem dX4_isDoubted_82 : decode cX4_isDoubted 82 = .ok (.iload 8, 2) := by decide +kernel
theorem dX4_isDoubted_84 : decode cX4_isDoubted 84 = .ok (.invokestatic 230, 3) := by decide +kernel
theorem dX4_isDoubted_87 : decode cX4_isDoubted 87 = .ok (.iload_n 3, 1) := by decide +kernel
theorem dX4_isDoubted_88 : decode cX4_isDoubted 88 = .ok (.iload 7, 2) := by decide +kernel
theorem dX4_isDoubted_90 : decode cX4_isDoubted 90 = .ok (.imul, 1) := by decide +kernel
theorem dX4_isDoubted_91 : decode cX4_isDoubted 91 = .ok (.if_icmp .le 7, 3) := by decide +kernel
theorem dX4_isDoubted_94 : decode cX4_isDoubted 94 = .ok (.iconst 1, 1) := by decide +kernel
theorem dX4_isDoubted_95 : decode cX4_isDoubted 95 = .ok (.goto 4, 3) := by decide +kernel
theorem dX4_isDoubted_98 : decode cX4_isDoubted 98 = .ok (.iconst 0, 1) := by decide +kernel
theorem dX4_isDoubted_99 : decode cX4_isDoubted 99 = .ok (.ireturn, 1) := by decide +kernel
theorem dX5_init_0 : decode cX5_init 0 = .ok (.aload_n 0, 1) := by decide +kernel
theorem dX5_init_1 : decode cX5_init 1 = .ok (.invokespecial 1, 3) := by decide +kernel
theorem dX5_init_4 : decode cX5_init 4 = .ok (.aload_n 0, 1) := by decide +kernel
theorem dX5_init_5 : decode cX5_init 5 = .ok (.bipush 16, 2) := by decide +kernel
theorem dX5_init_7 : decode cX5_init 7 = .ok (.newarray .int, 2) := by decide +kernel
theorem dX5_init_9 : decode cX5_init 9 = .ok (.putfield 7, 3) := by decide +kernel
theorem dX5_init_12 : decode cX5_init 12 = .ok (.aload_n 0, 1) := by decide +kernel
theorem dX5_init_13 : decode cX5_init 13 = .ok (.bipush 16, 2) := by decide +kernel
theorem dX5_init_15 : decode cX5_init 15 = .ok (.newarray .int, 2) := by decide +kernel
theorem dX5_init_17 : decode cX5_init 17 = .ok (.putfield 13, 3) := by decide +kernel
theorem dX5_init_20 : decode cX5_init 20 = .ok (.aload_n 0, 1) := by decide +kernel
theorem dX5_init_21 : decode cX5_init 21 = .ok (.bipush 8, 2) := by decide +kernel
theorem dX5_init_23 : decode cX5_init 23 = .ok (.newarray .int, 2) := by decide +kernel
theorem dX5_init_25 : decode cX5_init 25 = .ok (.putfield 16, 3) := by decide +kernel
theorem dX5_init_28 : decode cX5_init 28 = .ok (.aload_n 0, 1) := by decide +kernel
theorem dX5_init_29 : decode cX5_init 29 = .ok (.bipush 8, 2) := by decide +kernel
theorem dX5_init_31 : decode cX5_init 31 = .ok (.newarray .int, 2) := by decide +kernel
theorem dX5_init_33 : decode cX5_init 33 = .ok (.putfield 19, 3) := by decide +kernel
theorem dX5_init_36 : decode cX5_init 36 = .ok (.aload_n 0, 1) := by decide +kernel
theorem dX5_init_37 : decode cX5_init 37 = .ok (.bipush 8, 2) := by decide +kernel
theorem dX5_init_39 : decode cX5_init 39 = .ok (.newarray .int, 2) := by decide +kernel
theorem dX5_init_41 : decode cX5_init 41 = .ok (.putfield 22, 3) := by decide +kernel
theorem dX5_init_44 : decode cX5_init 44 = .ok (.aload_n 0, 1) := by decide +kernel
theorem dX5_init_45 : decode cX5_init 45 = .ok (.sipush 512, 3) := by decide +kernel
theorem dX5_init_48 : decode cX5_init 48 = .ok (.newarray .boolean, 2) := by decide +kernel
theorem dX5_init_50 : decode cX5_init 50 = .ok (.putfield 25, 3) := by decide +kernel
theorem dX5_init_53 : decode cX5_init 53 = .ok (.aload_n 0, 1) := by decide +kernel
theorem dX5_init_54 : decode cX5_init 54 = .ok (.sipush 512, 3) := by decide +kernel
theorem dX5_init_57 : decode cX5_init 57 = .ok (.newarray .int, 2) := by decide +kernel
theorem dX5_init_59 : decode cX5_init 59 = .ok (.putfield 29, 3) := by decide +kernel
theorem dX5_init_62 : decode cX5_init 62 = .ok (.aload_n 0, 1) := by decide +kernel
theorem dX5_init_63 : decode cX5_init 63 = .ok (.bipush 6, 2) := by decide +kernel
theorem dX5_init_65 : decode cX5_init 65 = .ok (.newarray .int, 2) := by decide +kernel
theorem dX5_init_67 : decode cX5_init 67 = .ok (.putfield 32, 3) := by decide +kernel
theorem dX5_init_70 : decode cX5_init 70 = .ok (.aload_n 0, 1) := by decide +kernel
theorem dX5_init_71 : decode cX5_init 71 = .ok (.iconst 2, 1) := by decide +kernel
theorem dX5_init_72 : decode cX5_init 72 = .ok (.newarray .boolean, 2) := by decide +kernel
theorem dX5_init_74 : decode cX5_init 74 = .ok (.putfield 35, 3) := by decide +kernel
theorem dX5_init_77 : decode cX5_init 77 = .ok (.aload_n 0, 1) := by decide +kernel
theorem dX5_init_78 : decode cX5_init 78 = .ok (.bipush 64, 2) := by decide +kernel
theorem dX5_init_80 : decode cX5_init 80 = .ok (.newarray .int, 2) := by decide +kernel
theorem dX5_init_82 : decode cX5_init 82 = .ok (.putfield 38, 3) := by decide +kernel
theorem dX5_init_85 : decode cX5_init 85 = .ok (.aload_n 0, 1) := by decide +kernel
theorem dX5_init_86 : decode cX5_init 86 = .ok (.iconst 2, 1) := by decide +kernel
theorem dX5_init_87 : decode cX5_init 87 = .ok (.newarray .int, 2) := by decide +kernel
theorem dX5_init_89 : decode cX5_init 89 = .ok (.putfield 41, 3) := by decide +kernel
theorem dX5_init_92 : decode cX5_init 92 = .ok (.aload_n 0, 1) := by decide +kernel
theorem dX5_init_93 : decode cX5_init 93 = .ok (.bipush 48, 2) := by decide +kernel
theorem dX5_init_95 : decode cX5_init 95 = .ok (.newarray .int, 2) := by decide +kernel
theorem dX5_init_97 : decode cX5_init 97 = .ok (.putfield 44, 3) := by decide +kernel
theorem dX5_init_100 : decode cX5_init 100 = .ok (.aload_n 0, 1) := by decide +kernel
theorem dX5_init_101 : decode cX5_init 101 = .ok (.sipush 1024, 3) := by decide +kernel
theorem dX5_init_104 : decode cX5_init 104 = .ok (.newarray .boolean, 2) := by decide +kernel
theorem dX5_init_106 : decode cX5_init 106 = .ok (.putfield 47, 3) := by decide +kernel
theorem dX5_init_109 : decode cX5_init 109 = .ok (.aload_n 0, 1) := by decide +kernel
theorem dX5_init_110 : decode cX5_init 110 = .ok (.sipush 1024, 3) := by decide +kernel
theorem dX5_init_113 : decode cX5_init 113 = .ok (.newarray .int, 2) := by decide +kernel
theorem dX5_init_115 : decode cX5_init 115 = .ok (.putfield 50, 3) := by decide +kernel
theorem dX5_init_118 : decode cX5_init 118 = .ok (.iconst 0, 1) := by decide +kernel
theorem dX5_init_119 : decode cX5_init 119 = .ok (.istore_n 1, 1) := by decide +kernel
theorem dX5_init_120 : decode cX5_init 120 = .ok (.iload_n 1, 1) := by decide +kernel
theorem dX5_init_121 : decode cX5_init 121 = .ok (.bipush 16, 2) := by decide +kernel
theorem dX5_init_123 : decode cX5_init 123 = .ok (.if_icmp .ge 17, 3) := by decide +kernel
theorem dX5_init_126 : decode cX5_init 126 = .ok (.aload_n 0, 1) := by decide +kernel
theorem dX5_init_127 : decode cX5_init 127 = .ok (.getfield 13, 3) := by decide +kernel
theorem dX5_init_130 : decode cX5_init 130 = .ok (.iload_n 1, 1) := by decide +kernel
theorem dX5_init_131 : decode cX5_init 131 = .ok (.bipush 15, 2) := by decide +kernel
theorem dX5_init_133 : decode cX5_init 133 = .ok (.iastore, 1) := by decide +kernel
theorem dX5_init_134 : decode cX5_init 134 = .ok (.iinc 1 1, 3) := by decide +kernel
theorem dX5_init_137 : decode cX5_init 137 = .ok (.goto (-17), 3) := by decide +kernel
theorem dX5_init_140 : decode cX5_init 140 = .ok (.iconst 0, 1) := by decide +kernel
theorem dX5_init_141 : decode cX5_init 141 = .ok (.istore_n 1, 1) := by decide +kernel
theorem dX5_init_142 : decode cX5_init 142 = .ok (.iload_n 1, 1) := by decide +kernel
theorem dX5_init_143 : decode cX5_init 143 = .ok (.sipush 512, 3) := by decide +kernel
theorem dX5_init_146 : decode cX5_init 146 = .ok (.if_icmp .ge 17, 3) := by decide +kernel
theorem dX5_init_149 : decode cX5_init 149 = .ok (.aload_n 0, 1) := by decide +kernel
theorem dX5_init_150 : decode cX5_init 150 = .ok (.getfield 29, 3) := by decide +kernel
theorem dX5_init_153 : decode cX5_init 153 = .ok (.iload_n 1, 1) := by decide +kernel
theorem dX5_init_154 : decode cX5_init 154 = .ok (.bipush (-6), 2) := by decide +kernel
theorem dX5_init_156 : decode cX5_init 156 = .ok (.iastore, 1) := by decide +kernel
theorem dX5_init_157 : decode cX5_init 157 = .ok (.iinc 1 1, 3) := by decide +kernel
theorem dX5_init_160 : decode cX5_init 160 = .ok (.goto (-18), 3) := by decide +kernel
theorem dX5_init_163 : decode cX5_init 163 = .ok (.return_, 1) := by decide +kernel
theorem dX5_in_0 : decode cX5_in 0 = .ok (.iload_n 0, 1) := by decide +kernel
theorem dX5_in_1 : decode cX5_in 1 = .ok (.iload_n 1, 1) := by decide +kernel
theorem dX5_in_2 : decode cX5_in 2 = .ok (.if_icmp .lt 12, 3) := by decide +kernel
theorem dX5_in_5 : decode cX5_in 5 = .ok (.iload_n 0, 1) := by decide +kernel
theorem dX5_in_6 : decode cX5_in 6 = .ok (.iload_n 2, 1) := by decide +kernel
theorem dX5_in_7 : decode cX5_in 7 = .ok (.if_icmp .gt 7, 3) := by decide +kernel
theorem dX5_in_10 : decode cX5_in 10 = .ok (.iconst 1, 1) := by decide +kernel
theorem dX5_in_11 : decode cX5_in 11 = .ok (.goto 4, 3) := by decide +kernel
theorem dX5_in_14 : decode cX5_in 14 = .ok (.iconst 0, 1) := by decide +kernel
theorem dX5_in_15 : decode cX5_in 15 = .ok (.ireturn, 1) := by decide +kernel
theorem dX5_square_0 : decode cX5_square 0 = .ok (.iload_n 0, 1) := by decide +kernel
theorem dX5_square_1 : decode cX5_square 1 = .ok (.iload_n 0, 1) := by decide +kernel
theorem dX5_square_2 : decode cX5_square 2 = .ok (.imul, 1) := by decide +kernel
theorem dX5_square_3 : decode cX5_square 3 = .ok (.ireturn, 1) := by decide +kernel
set_option maxRecDepth 20000 in
theorem ggX5_isGauge_X5_in : GoodIn wsX5_isGauge wsX5_in := goodIn_r _ [5] (by decide +kernel) (by decide +kernel)
set_option maxRecDepth 20000 in
theorem gX5_isGauge_X5_in : GoodIn wsX5_isGauge (va_wsS RX5 57 yX5_in wsX5_in) := goodIn_app (goodIn_of _ (by decide +kernel)) ggX5_isGauge_X5_in
theorem dX5_isGauge_0 : decode cX5_isGauge 0 = .ok (.iload_n 1, 1) := by decide +kernel
theorem dX5_isGauge_1 : decode cX5_isGauge 1 = .ok (.iconst 0, 1) := by decide +kernel
theorem dX5_isGauge_2 : decode cX5_isGauge 2 = .ok (.aload_n 0, 1) := by decide +kernel
theorem dX5_isGauge_3 : decode cX5_isGauge 3 = .ok (.getfield 53, 3) := by decide +kernel
theorem dX5_isGauge_6 : decode cX5_isGauge 6 = .ok (.iconst 1, 1) := by decide +kernel
theorem dX5_isGauge_7 : decode cX5_isGauge 7 = .ok (.isub, 1) := by decide +kernel
theorem dX5_isGauge_8 : decode cX5_isGauge 8 = .ok (.invokestatic 57, 3) := by decide +kernel
theorem dX5_isGauge_11 : decode cX5_isGauge 11 = .ok (.ireturn, 1) := by decide +kernel
set_option maxRecDepth 20000 in
theorem ggX5_isDay_X5_in : GoodIn wsX5_isDay wsX5_in := goodIn_r _ [4] (by decide +kernel) (by decide +kernel)
set_option maxRecDepth 20000 in
theorem gX5_isDay_X5_in : GoodIn wsX5_isDay (va_wsS RX5 57 yX5_in wsX5_in) := goodIn_app (goodIn_of _ (by decide +kernel)) ggX5_isDay_X5_in
theorem dX5_isDay_0 : decode cX5_isDay 0 = .ok (.iload_n 0, 1) := by decide +kernel
theorem dX5_isDay_1 : decode cX5_isDay 1 = .ok (.iconst 0, 1) := by decide +kernel
theorem dX5_isDay_2 : decode cX5_isDay 2 = .ok (.bipush 63, 2) := by decide +kernel
theorem dX5_isDay_4 : decode cX5_isDay 4 = .ok (.invokestatic 57, 3) := by decide +kernel
theorem dX5_isDay_7 : decode cX5_isDay 7 = .ok (.ireturn, 1) := by decide +kernel
set_option maxRecDepth 20000 in
theorem ggX5_isPlot_X5_in : GoodIn wsX5_isPlot wsX5_in := goodIn_r _ [6] (by decide +kernel) (by decide +kernel)
set_option maxRecDepth 20000 in
theorem gX5_isPlot_X5_in : GoodIn wsX5_isPlot (va_wsS RX5 57 yX5_in wsX5_in) := goodIn_app (goodIn_of _ (by decide +kernel)) ggX5_isPlot_X5_in
theorem dX5_isPlot_0 : decode cX5_isPlot 0 = .ok (.iload_n 2, 1) := by decide +kernel
theorem dX5_isPlot_1 : decode cX5_isPlot 1 = .ok (.iconst 0, 1) := by decide +kernel
theorem dX5_isPlot_2 : decode cX5_isPlot 2 = .ok (.bipush 15, 2) := by decide +kernel
theorem dX5_isPlot_4 : decode cX5_isPlot 4 = .ok (.invokestatic 57, 3) := by decide +kernel
theorem dX5_isPlot_7 : decode cX5_isPlot 7 = .ok (.ifCond .eq 26, 3) := by decide +kernel
theorem dX5_isPlot_10 : decode cX5_isPlot 10 = .ok (.iload_n 1, 1) := by decide +kernel
theorem dX5_isPlot_11 : decode cX5_isPlot 11 = .ok (.aload_n 0, 1) := by decide +kernel
theorem dX5_isPlot_12 : decode cX5_isPlot 12 = .ok (.getfield 7, 3) := by decide +kernel
theorem dX5_isPlot_15 : decode cX5_isPlot 15 = .ok (.iload_n 2, 1) := by decide +kernel
theorem dX5_isPlot_16 : decode cX5_isPlot 16 = .ok (.iaload, 1) := by decide +kernel
theorem dX5_isPlot_17 : decode cX5_isPlot 17 = .ok (.aload_n 0, 1) := by decide +kernel
theorem dX5_isPlot_18 : decode cX5_isPlot 18 = .ok (.getfield 13, 3) := by decide +kernel
theorem dX5_isPlot_21 : decode cX5_isPlot 21 = .ok (.iload_n 2, 1) := by decide +kernel
theorem dX5_isPlot_22 : decode cX5_isPlot 22 = .ok (.iaload, 1) := by decide +kernel
theorem dX5_isPlot_23 : decode cX5_isPlot 23 = .ok (.invokestatic 57, 3) := by decide +kernel
theorem dX5_isPlot_26 : decode cX5_isPlot 26 = .ok (.ifCond .eq 7, 3) := by decide +kernel
theorem dX5_isPlot_29 : decode cX5_isPlot 29 = .ok (.iconst 1, 1) := by decide +kernel
theorem dX5_isPlot_30 : decode cX5_isPlot 30 = .ok (.goto 4, 3) := by decide +kernel
theorem dX5_isPlot_33 : decode cX5_isPlot 33 = .ok (.iconst 0, 1) := by decide +kernel
theorem dX5_isPlot_34 : decode cX5_isPlot 34 = .ok (.ireturn, 1) := by decide +kernel
theorem dX5_plots_0 : decode cX5_plots 0 = .ok (.iconst 0, 1) := by decide +kernel
theorem dX5_plots_1 : decode cX5_plots 1 = .ok (.istore_n 1, 1) := by decide +kernel
theorem dX5_plots_2 : decode cX5_plots 2 = .ok (.iconst 0, 1) := by decide +kernel
theorem dX5_plots_3 : decode cX5_plots 3 = .ok (.istore_n 2, 1) := by decide +kernel
theorem dX5_plots_4 : decode cX5_plots 4 = .ok (.iload_n 2, 1) := by decide +kernel
theorem dX5_plots_5 : decode cX5_plots 5 = .ok (.bipush 16, 2) := by decide +kernel
theorem dX5_plots_7 : decode cX5_plots 7 = .ok (.if_icmp .ge 46, 3) := by decide +kernel
theorem dX5_plots_10 : decode cX5_plots 10 = .ok (.iload_n 1, 1) := by decide +kernel
theorem dX5_plots_11 : decode cX5_plots 11 = .ok (.aload_n 0, 1) := by decide +kernel
theorem dX5_plots_12 : decode cX5_plots 12 = .ok (.getfield 7, 3) := by decide +kernel
theorem dX5_plots_15 : decode cX5_plots 15 = .ok (.iload_n 2, 1) := by decide +kernel
theorem dX5_plots_16 : decode cX5_plots 16 = .ok (.iaload, 1) := by decide +kernel
theorem dX5_plots_17 : decode cX5_plots 17 = .ok (.aload_n 0, 1) := by decide +kernel
theorem dX5_plots_18 : decode cX5_plots 18 = .ok (.getfield 13, 3) := by decide +kernel
theorem dX5_plots_21 : decode cX5_plots 21 = .ok (.iload_n 2, 1) := by decide +kernel
theorem dX5_plots_22 : decode cX5_plots 22 = .ok (.iaload, 1) := by decide +kernel
theorem dX5_plots_23 : decode cX5_plots 23 = .ok (.if_icmp .gt 21, 3) := by decide +kernel
theorem dX5_plots_26 : decode cX5_plots 26 = .ok (.aload_n 0, 1) := by decide +kernel
theorem dX5_plots_27 : decode cX5_plots 27 = .ok (.getfield 13, 3) := by decide +kernel
theorem dX5_plots_30 : decode cX5_plots 30 = .ok (.iload_n 2, 1) := by decide +kernel
theorem dX5_plots_31 : decode cX5_plots 31 = .ok (.iaload, 1) := by decide +kernel
theorem dX5_plots_32 : decode cX5_plots 32 = .ok (.aload_n 0, 1) := by decide +kernel
theorem dX5_plots_33 : decode cX5_plots 33 = .ok (.getfield 7, 3) := by decide +kernel
theorem dX5_plots_36 : decode cX5_plots 36 = .ok (.iload_n 2, 1) := by decide +kernel
theorem dX5_plots_37 : decode cX5_plots 37 = .ok (.iaload, 1) := by decide +kernel
theorem dX5_plots_38 : decode cX5_plots 38 = .ok (.isub, 1) := by decide +kernel
theorem dX5_plots_39 : decode cX5_plots 39 = .ok (.iconst 1, 1) := by decide +kernel
theorem dX5_plots_40 : decode cX5_plots 40 = .ok (.iadd, 1) := by decide +kernel
theorem dX5_plots_41 : decode cX5_plots 41 = .ok (.goto 4, 3) := by decide +kernel
theorem dX5_plots_44 : decode cX5_plots 44 = .ok (.iconst 0, 1) := by decide +kernel
theorem dX5_plots_45 : decode cX5_plots 45 = .ok (.iadd, 1) := by decide +kernel
theorem dX5_plots_46 : decode cX5_plots 46 = .ok (.istore_n 1, 1) := by decide +kernel
theorem dX5_plots_47 : decode cX5_plots 47 = .ok (.iinc 2 1, 3) := by decide +kernel
theorem dX5_plots_50 : decode cX5_plots 50 = .ok (.goto (-46), 3) := by decide +kernel
theorem dX5_plots_53 : decode cX5_plots 53 = .ok (.iload_n 1, 1) := by decide +kernel
theorem dX5_plots_54 : decode cX5_plots 54 = .ok (.ireturn, 1) := by decide +kernel
theorem dX5_has_0 : decode cX5_has 0 = .ok (.iload_n 0, 1) := by decide +kernel
theorem dX5_has_1 : decode cX5_has 1 = .ok (.iload_n 1, 1) := by decide +kernel
theorem dX5_has_2 : decode cX5_has 2 = .ok (.ishr, 1) := by decide +kernel
theorem dX5_has_3 : decode cX5_has 3 = .ok (.iconst 1, 1) := by decide +kernel
theorem dX5_has_4 : decode cX5_has 4 = .ok (.iand, 1) := by decide +kernel
theorem dX5_has_5 : decode cX5_has 5 = .ok (.iconst 1, 1) := by decide +kernel
theorem dX5_has_6 : decode cX5_has 6 = .ok (.if_icmp .ne 7, 3) := by decide +kernel
theorem dX5_has_9 : decode cX5_has 9 = .ok (.iconst 1, 1) := by decide +kernel
theorem dX5_has_10 : decode cX5_has 10 = .ok (.goto 4, 3) := by decide +kernel
theorem dX5_has_13 : decode cX5_has 13 = .ok (.iconst 0, 1) := by decide +kernel
theorem dX5_has_14 : decode cX5_has 14 = .ok (.ireturn, 1) := by decide +kernel
set_option maxRecDepth 20000 in
theorem ggX5_row_X5_in : GoodIn wsX5_row wsX5_in := goodIn_r _ [7] (by decide +kernel) (by decide +kernel)
set_option maxRecDepth 20000 in
theorem gX5_row_X5_in : GoodIn wsX5_row (va_wsS RX5 57 yX5_in wsX5_in) := goodIn_app (goodIn_of _ (by decide +kernel)) ggX5_row_X5_in
set_option maxRecDepth 20000 in
theorem ggX5_row_X5_plots : GoodIn wsX5_row wsX5_plots := goodIn_r _ [11, 1, 2, 12, 13, 14, 15, 16, 17, 18, 19, 20, 21, 22, 23, 24, 25, 26, 27, 28, 29, 30] (by decide +kernel) (by decide +kernel)
set_option maxRecDepth 20000 in
theorem gX5_row_X5_plots : GoodIn wsX5_row (wsV RX5 64 RX5 yX5_plots wsX5_plots) := goodIn_app (goodIn_of _ (by decide +kernel)) ggX5_row_X5_plots
theorem dX5_row_0 : decode cX5_row 0 = .ok (.iload_n 1, 1) := by decide +kernel
theorem dX5_row_1 : decode cX5_row 1 = .ok (.iconst 0, 1) := by decide +kernel
theorem dX5_row_2 : decode cX5_row 2 = .ok (.bipush 15, 2) := by decide +kernel
theorem dX5_row_4 : decode cX5_row 4 = .ok (.invokestatic 57, 3) := by decide +kernel
theorem dX5_row_7 : decode cX5_row 7 = .ok (.ifCond .eq 23, 3) := by decide +kernel
theorem dX5_row_10 : decode cX5_row 10 = .ok (.iload_n 2, 1) := by decide +kernel
theorem dX5_row_11 : decode cX5_row 11 = .ok (.iconst 0, 1) := by decide +kernel
theorem dX5_row_12 : decode cX5_row 12 = .ok (.bipush 15, 2) := by decide +kernel
theorem dX5_row_14 : decode cX5_row 14 = .ok (.invokestatic 57, 3) := by decide +kernel
theorem dX5_row_17 : decode cX5_row 17 = .ok (.ifCond .eq 13, 3) := by decide +kernel
theorem dX5_row_20 : decode cX5_row 20 = .ok (.iload_n 3, 1) := by decide +kernel
theorem dX5_row_21 : decode cX5_row 21 = .ok (.iconst 0, 1) := by decide +kernel
theorem dX5_row_22 : decode cX5_row 22 = .ok (.bipush 15, 2) := by decide +kernel
theorem dX5_row_24 : decode cX5_row 24 = .ok (.invokestatic 57, 3) := by decide +kernel
theorem dX5_row_27 : decode cX5_row 27 = .ok (.ifCond .ne 6, 3) := by decide +kernel
theorem dX5_row_30 : decode cX5_row 30 = .ok (.bipush (-2), 2) := by decide +kernel
theorem dX5_row_32 : decode cX5_row 32 = .ok (.ireturn, 1) := by decide +kernel
theorem dX5_row_33 : decode cX5_row 33 = .ok (.aload_n 0, 1) := by decide +kernel
theorem dX5_row_34 : decode cX5_row 34 = .ok (.getfield 7, 3) := by decide +kernel
theorem dX5_row_37 : decode cX5_row 37 = .ok (.iload_n 1, 1) := by decide +kernel
theorem dX5_row_38 : decode cX5_row 38 = .ok (.iload_n 2, 1) := by decide +kernel
theorem dX5_row_39 : decode cX5_row 39 = .ok (.iastore, 1) := by decide +kernel
theorem dX5_row_40 : decode cX5_row 40 = .ok (.aload_n 0, 1) := by decide +kernel
theorem dX5_row_41 : decode cX5_row 41 = .ok (.getfield 13, 3) := by decide +kernel
theorem dX5_row_44 : decode cX5_row 44 = .ok (.iload_n 1, 1) := by decide +kernel
theorem dX5_row_45 : decode cX5_row 45 = .ok (.iload_n 3, 1) := by decide +kernel
theorem dX5_row_46 : decode cX5_row 46 = .ok (.iastore, 1) := by decide +kernel
theorem dX5_row_47 : decode cX5_row 47 = .ok (.aload_n 0, 1) := by decide +kernel
theorem dX5_row_48 : decode cX5_row 48 = .ok (.iconst 0, 1) := by decide +kernel
theorem dX5_row_49 : decode cX5_row 49 = .ok (.putfield 61, 3) := by decide +kernel
theorem dX5_row_52 : decode cX5_row 52 = .ok (.aload_n 0, 1) := by decide +kernel
theorem dX5_row_53 : decode cX5_row 53 = .ok (.invokevirtual 64, 3) := by decide +kernel
theorem dX5_row_56 : decode cX5_row 56 = .ok (.ireturn, 1) := by decide +kernel
set_option maxRecDepth 20000 in
theorem ggX5_isPlace_X5_in : GoodIn wsX5_isPlace wsX5_in := goodIn_r _ [4] (by decide +kernel) (by decide +kernel)
set_option maxRecDepth 20000 in
theorem gX5_isPlace_X5_in : GoodIn wsX5_isPlace (va_wsS RX5 57 yX5_in wsX5_in) := goodIn_app (goodIn_of _ (by decide +kernel)) ggX5_isPlace_X5_in
theorem dX5_isPlace_0 : decode cX5_isPlace 0 = .ok (.iload_n 0, 1) := by decide +kernel
theorem dX5_isPlace_1 : decode cX5_isPlace 1 = .ok (.bipush (-20), 2) := by decide +kernel
theorem dX5_isPlace_3 : decode cX5_isPlace 3 = .ok (.bipush 35, 2) := by decide +kernel
theorem dX5_isPlace_5 : decode cX5_isPlace 5 = .ok (.invokestatic 57, 3) := by decide +kernel
theorem dX5_isPlace_8 : decode cX5_isPlace 8 = .ok (.ifCond .eq 18, 3) := by decide +kernel
theorem dX5_isPlace_11 : decode cX5_isPlace 11 = .ok (.iload_n 1, 1) := by decide +kernel
theorem dX5_isPlace_12 : decode cX5_isPlace 12 = .ok (.bipush (-20), 2) := by decide +kernel
theorem dX5_isPlace_14 : decode cX5_isPlace 14 = .ok (.bipush 35, 2) := by decide +kernel
theorem dX5_isPlace_16 : decode cX5_isPlace 16 = .ok (.invokestatic 57, 3) := by decide +kernel
theorem dX5_isPlace_19 : decode cX5_isPlace 19 = .ok (.ifCond .eq 7, 3) := by decide +kernel
theorem dX5_isPlace_22 : decode cX5_isPlace 22 = .ok (.iconst 1, 1) := by decide +kernel
theorem dX5_isPlace_23 : decode cX5_isPlace 23 = .ok (.goto 4, 3) := by decide +kernel
theorem dX5_isPlace_26 : decode cX5_isPlace 26 = .ok (.iconst 0, 1) := by decide +kernel
theorem dX5_isPlace_27 : decode cX5_isPlace 27 = .ok (.ireturn, 1) := by decide +kernel
theorem dX5_gaugeAt_0 : decode cX5_gaugeAt 0 = .ok (.bipush (-6), 2) := by decide +kernel
theorem dX5_gaugeAt_2 : decode cX5_gaugeAt 2 = .ok (.istore_n 3, 1) := by decide +kernel
theorem dX5_gaugeAt_3 : decode cX5_gaugeAt 3 = .ok (.iconst 0, 1) := by decide +kernel
theorem dX5_gaugeAt_4 : decode cX5_gaugeAt 4 = .ok (.istore 4, 2) := by decide +kernel
theorem dX5_gaugeAt_6 : decode cX5_gaugeAt 6 = .ok (.iload 4, 2) := by decide +kernel
theorem dX5_gaugeAt_8 : decode cX5_gaugeAt 8 = .ok (.aload_n 0, 1) := by decide +kernel
theorem dX5_gaugeAt_9 : decode cX5_gaugeAt 9 = .ok (.getfield 53, 3) := by decide +kernel
theorem dX5_gaugeAt_12 : decode cX5_gaugeAt 12 = .ok (.if_icmp .ge 38, 3) := by decide +kernel
theorem dX5_gaugeAt_15 : decode cX5_gaugeAt 15 = .ok (.aload_n 0, 1) := by decide +kernel
theorem dX5_gaugeAt_16 : decode cX5_gaugeAt 16 = .ok (.getfield 16, 3) := by decide +kernel
theorem dX5_gaugeAt_19 : decode cX5_gaugeAt 19 = .ok (.iload 4, 2) := by decide +kernel
theorem dX5_gaugeAt_21 : decode cX5_gaugeAt 21 = .ok (.iaload, 1) := by decide +kernel
theorem dX5_gaugeAt_22 : decode cX5_gaugeAt 22 = .ok (.iload_n 1, 1) := by decide +kernel
theorem dX5_gaugeAt_23 : decode cX5_gaugeAt 23 = .ok (.if_icmp .ne 19, 3) := by decide +kernel
theorem dX5_gaugeAt_26 : decode cX5_gaugeAt 26 = .ok (.aload_n 0, 1) := by decide +kernel
theorem dX5_gaugeAt_27 : decode cX5_gaugeAt 27 = .ok (.getfield 19, 3) := by decide +kernel
theorem dX5_gaugeAt_30 : decode cX5_gaugeAt 30 = .ok (.iload 4, 2) := by decide +kernel
theorem dX5_gaugeAt_32 : decode cX5_gaugeAt 32 = .ok (.iaload, 1) := by decide +kernel
theorem dX5_gaugeAt_33 : decode cX5_gaugeAt 33 = .ok (.iload_n 2, 1) := by decide +kernel
theorem dX5_gaugeAt_34 : decode cX5_gaugeAt 34 = .ok (.if_icmp .ne 8, 3) := by decide +kernel
theorem dX5_gaugeAt_37 : decode cX5_gaugeAt 37 = .ok (.iload 4, 2) := by decide +kernel
theorem dX5_gaugeAt_39 : decode cX5_gaugeAt 39 = .ok (.goto 4, 3) := by decide +kernel
theorem dX5_gaugeAt_42 : decode cX5_gaugeAt 42 = .ok (.iload_n 3, 1) := by decide +kernel
theorem dX5_gaugeAt_43 : decode cX5_gaugeAt 43 = .ok (.istore_n 3, 1) := by decide +kernel
theorem dX5_gaugeAt_44 : decode cX5_gaugeAt 44 = .ok (.iinc 4 1, 3) := by decide +kernel
theorem dX5_gaugeAt_47 : decode cX5_gaugeAt 47 = .ok (.goto (-41), 3) := by decide +kernel
theorem dX5_gaugeAt_50 : decode cX5_gaugeAt 50 = .ok (.iload_n 3, 1) := by decide +kernel
theorem dX5_gaugeAt_51 : decode cX5_gaugeAt 51 = .ok (.ireturn, 1) := by decide +kernel
set_option maxRecDepth 20000 in
theorem ggX5_gauge_X5_isPlace : GoodIn wsX5_gauge wsX5_isPlace := goodIn_r _ [11, 12, 13, 10, 14] (by decide +kernel) (by decide +kernel)
set_option maxRecDepth 20000 in
theorem gX5_gauge_X5_isPlace : GoodIn wsX5_gauge (va_wsS RX5 68 yX5_isPlace wsX5_isPlace) := goodIn_app (goodIn_of _ (by decide +kernel)) ggX5_gauge_X5_isPlace
set_option maxRecDepth 20000 in
theorem ggX5_gauge_X5_gaugeAt : GoodIn wsX5_gauge wsX5_gaugeAt := goodIn_r _ [18, 1, 2, 3, 19, 20, 21, 22, 23, 24, 25, 26, 27, 28, 29, 30, 31, 32, 33, 34, 35, 36, 37] (by decide +kernel) (by decide +kernel)
set_option maxRecDepth 20000 in
theorem gX5_gauge_X5_gaugeAt : GoodIn wsX5_gauge (wsV RX5 72 RX5 yX5_gaugeAt wsX5_gaugeAt) := goodIn_app (goodIn_of _ (by decide +kernel)) ggX5_gauge_X5_gaugeAt
theorem dX5_gauge_0 : decode cX5_gauge 0 = .ok (.iload_n 1, 1) := by decide +kernel
theorem dX5_gauge_1 : decode cX5_gauge 1 = .ok (.iload_n 2, 1) := by decide +kernel
theorem dX5_gauge_2 : decode cX5_gauge 2 = .ok (.invokestatic 68, 3) := by decide +kernel
theorem dX5_gauge_5 : decode cX5_gauge 5 = .ok (.ifCond .ne 6, 3) := by decide +kernel
theorem dX5_gauge_8 : decode cX5_gauge 8 = .ok (.bipush (-2), 2) := by decide +kernel
theorem dX5_gauge_10 : decode cX5_gauge 10 = .ok (.ireturn, 1) := by decide +kernel
theorem dX5_gauge_11 : decode cX5_gauge 11 = .ok (.aload_n 0, 1) := by decide +kernel
theorem dX5_gauge_12 : decode cX5_gauge 12 = .ok (.iload_n 1, 1) := by decide +kernel
theorem dX5_gauge_13 : decode cX5_gauge 13 = .ok (.iload_n 2, 1) := by decide +kernel
theorem dX5_gauge_14 : decode cX5_gauge 14 = .ok (.invokevirtual 72, 3) := by decide +kernel
theorem dX5_gauge_17 : decode cX5_gauge 17 = .ok (.ifCond .lt 6, 3) := by decide +kernel
theorem dX5_gauge_20 : decode cX5_gauge 20 = .ok (.bipush (-5), 2) := by decide +kernel
theorem dX5_gauge_22 : decode cX5_gauge 22 = .ok (.ireturn, 1) := by decide +kernel
theorem dX5_gauge_23 : decode cX5_gauge 23 = .ok (.aload_n 0, 1) := by decide +kernel
theorem dX5_gauge_24 : decode cX5_gauge 24 = .ok (.getfield 53, 3) := by decide +kernel
theorem dX5_gauge_27 : decode cX5_gauge 27 = .ok (.bipush 8, 2) := by decide +kernel
theorem dX5_gauge_29 : decode cX5_gauge 29 = .ok (.if_icmp .ne 6, 3) := by decide +kernel
theorem dX5_gauge_32 : decode cX5_gauge 32 = .ok (.bipush (-4), 2) := by decide +kernel
theorem dX5_gauge_34 : decode cX5_gauge 34 = .ok (.ireturn, 1) := by decide +kernel
theorem dX5_gauge_35 : decode cX5_gauge 35 = .ok (.aload_n 0, 1) := by decide +kernel
theorem dX5_gauge_36 : decode cX5_gauge 36 = .ok (.getfield 16, 3) := by decide +kernel
theorem dX5_gauge_39 : decode cX5_gauge 39 = .ok (.aload_n 0, 1) := by decide +kernel
theorem dX5_gauge_40 : decode cX5_gauge 40 = .ok (.getfield 53, 3) := by decide +kernel
theorem dX5_gauge_43 : decode cX5_gauge 43 = .ok (.iload_n 1, 1) := by decide +kernel
theorem dX5_gauge_44 : decode cX5_gauge 44 = .ok (.iastore, 1) := by decide +kernel
theorem dX5_gauge_45 : decode cX5_gauge 45 = .ok (.aload_n 0, 1) := by decide +kernel
theorem dX5_gauge_46 : decode cX5_gauge 46 = .ok (.getfield 19, 3) := by decide +kernel
theorem dX5_gauge_49 : decode cX5_gauge 49 = .ok (.aload_n 0, 1) := by decide +kernel
theorem dX5_gauge_50 : decode cX5_gauge 50 = .ok (.getfield 53, 3) := by decide +kernel
theorem dX5_gauge_53 : decode cX5_gauge 53 = .ok (.iload_n 2, 1) := by decide +kernel
theorem dX5_gauge_54 : decode cX5_gauge 54 = .ok (.iastore, 1) := by decide +kernel
theorem dX5_gauge_55 : decode cX5_gauge 55 = .ok (.aload_n 0, 1) := by decide +kernel
theorem dX5_gauge_56 : decode cX5_gauge 56 = .ok (.getfield 22, 3) := by decide +kernel
theorem dX5_gauge_59 : decode cX5_gauge 59 = .ok (.aload_n 0, 1) := by decide +kernel
theorem dX5_gauge_60 : decode cX5_gauge 60 = .ok (.getfield 53, 3) := by decide +kernel
theorem dX5_gauge_63 : decode cX5_gauge 63 = .ok (.iconst 0, 1) := by decide +kernel
theorem dX5_gauge_64 : decode cX5_gauge 64 = .ok (.iastore, 1) := by decide +kernel
theorem dX5_gauge_65 : decode cX5_gauge 65 = .ok (.iconst 0, 1) := by decide +kernel
theorem dX5_gauge_66 : decode cX5_gauge 66 = .ok (.istore_n 3, 1) := by decide +kernel
theorem dX5_gauge_67 : decode cX5_gauge 67 = .ok (.iload_n 3, 1) := by decide +kernel
theorem dX5_gauge_68 : decode cX5_gauge 68 = .ok (.bipush 64, 2) := by decide +kernel
theorem dX5_gauge_70 : decode cX5_gauge 70 = .ok (.if_icmp .ge 40, 3) := by decide +kernel
theorem dX5_gauge_73 : decode cX5_gauge 73 = .ok (.aload_n 0, 1) := by decide +kernel
theorem dX5_gauge_74 : decode cX5_gauge 74 = .ok (.getfield 25, 3) := by decide +kernel
theorem dX5_gauge_77 : decode cX5_gauge 77 = .ok (.bipush 64, 2) := by decide +kernel
theorem dX5_gauge_79 : decode cX5_gauge 79 = .ok (.aload_n 0, 1) := by decide +kernel
theorem dX5_gauge_80 : decode cX5_gauge 80 = .ok (.getfield 53, 3) := by decide +kernel
theorem dX5_gauge_83 : decode cX5_gauge 83 = .ok (.imul, 1) := by decide +kernel
theorem dX5_gauge_84 : decode cX5_gauge 84 = .ok (.iload_n 3, 1) := by decide +kernel
theorem dX5_gauge_85 : decode cX5_gauge 85 = .ok (.iadd, 1) := by decide +kernel
theorem dX5_gauge_86 : decode cX5_gauge 86 = .ok (.iconst 0, 1) := by decide +kernel
theorem dX5_gauge_87 : decode cX5_gauge 87 = .ok (.bastore, 1) := by decide +kernel
theorem dX5_gauge_88 : decode cX5_gauge 88 = .ok (.aload_n 0, 1) := by decide +kernel
theorem dX5_gauge_89 : decode cX5_gauge 89 = .ok (.getfield 29, 3) := by decide +kernel
theorem dX5_gauge_92 : decode cX5_gauge 92 = .ok (.bipush 64, 2) := by decide +kernel
theorem dX5_gauge_94 : decode cX5_gauge 94 = .ok (.aload_n 0, 1) := by decide +kernel
theorem dX5_gauge_95 : decode cX5_gauge 95 = .ok (.getfield 53, 3) := by decide +kernel
theorem dX5_gauge_98 : decode cX5_gauge 98 = .ok (.imul, 1) := by decide +kernel
theorem dX5_gauge_99 : decode cX5_gauge 99 = .ok (.iload_n 3, 1) := by decide +kernel
theorem dX5_gauge_100 : decode cX5_gauge 100 = .ok (.iadd, 1) := by decide +kernel
theorem dX5_gauge_101 : decode cX5_gauge 101 = .ok (.bipush (-6), 2) := by decide +kernel
theorem dX5_gauge_103 : decode cX5_gauge 103 = .ok (.iastore, 1) := by decide +kernel
theorem dX5_gauge_104 : decode cX5_gauge 104 = .ok (.iinc 3 1, 3) := by decide +kernel
theorem dX5_gauge_107 : decode cX5_gauge 107 = .ok (.goto (-40), 3) := by decide +kernel
theorem dX5_gauge_110 : decode cX5_gauge 110 = .ok (.aload_n 0, 1) := by decide +kernel
theorem dX5_gauge_111 : decode cX5_gauge 111 = .ok (.dup, 1) := by decide +kernel
theorem dX5_gauge_112 : decode cX5_gauge 112 = .ok (.getfield 53, 3) := by decide +kernel
theorem dX5_gauge_115 : decode cX5_gauge 115 = .ok (.iconst 1, 1) := by decide +kernel
theorem dX5_gauge_116 : decode cX5_gauge 116 = .ok (.iadd, 1) := by decide +kernel
theorem dX5_gauge_117 : decode cX5_gauge 117 = .ok (.putfield 53, 3) := by decide +kernel
theorem dX5_gauge_120 : decode cX5_gauge 120 = .ok (.aload_n 0, 1) := by decide +kernel
theorem dX5_gauge_121 : decode cX5_gauge 121 = .ok (.iconst 0, 1) := by decide +kernel
theorem dX5_gauge_122 : decode cX5_gauge 122 = .ok (.putfield 61, 3) := by decide +kernel
theorem dX5_gauge_125 : decode cX5_gauge 125 = .ok (.aload_n 0, 1) := by decide +kernel
theorem dX5_gauge_126 : decode cX5_gauge 126 = .ok (.getfield 53, 3) := by decide +kernel
theorem dX5_gauge_129 : decode cX5_gauge 129 = .ok (.iconst 1, 1) := by decide +kernel
theorem dX5_gauge_130 : decode cX5_gauge 130 = .ok (.isub, 1) := by decide +kernel
theorem dX5_gauge_131 : decode cX5_gauge 131 = .ok (.ireturn, 1) := by decide +kernel
set_option maxRecDepth 20000 in
theorem ggX5_move_X5_isGauge : GoodIn wsX5_move wsX5_isGauge := goodIn_r _ [8, 9, 10, 11, 7, 12, 23, 24, 25, 26, 27, 28, 29, 30, 31, 32, 33, 34, 35, 36, 37, 38, 39, 40, 41] (by decide +kernel) (by decide +kernel)
set_option maxRecDepth 20000 in
theorem gX5_move_X5_isGauge : GoodIn wsX5_move (wsV RX5 76 RX5 yX5_isGauge wsX5_isGauge) := goodIn_app (goodIn_of _ (by decide +kernel)) ggX5_move_X5_isGauge
set_option maxRecDepth 20000 in
theorem ggX5_move_X5_isPlace : GoodIn wsX5_move wsX5_isPlace := goodIn_r _ [15, 10, 11, 7, 12] (by decide +kernel) (by decide +kernel)
set_option maxRecDepth 20000 in
theorem gX5_move_X5_isPlace : GoodIn wsX5_move (va_wsS RX5 68 yX5_isPlace wsX5_isPlace) := goodIn_app (goodIn_of _ (by decide +kernel)) ggX5_move_X5_isPlace
set_option maxRecDepth 20000 in
theorem ggX5_move_X5_gaugeAt : GoodIn wsX5_move wsX5_gaugeAt := goodIn_r _ [19, 9, 1, 2, 23, 24, 25, 26, 27, 28, 29, 30, 31, 32, 33, 34, 35, 36, 37, 38, 39, 40, 41] (by decide +kernel) (by decide +kernel)
set_option maxRecDepth 20000 in
theorem gX5_move_X5_gaugeAt : GoodIn wsX5_move (wsV RX5 72 RX5 yX5_gaugeAt wsX5_gaugeAt) := goodIn_app (goodIn_of _ (by decide +kernel)) ggX5_move_X5_gaugeAt
set_option maxRecDepth 20000 in
theorem ggX5_move_X5_square : GoodIn wsX5_move wsX5_square := goodIn_r _ [22] (by decide +kernel) (by decide +kernel)
set_option maxRecDepth 20000 in
theorem gX5_move_X5_square : GoodIn wsX5_move (va_wsS RX5 80 yX5_square wsX5_square) := goodIn_app (goodIn_of _ (by decide +kernel)) ggX5_move_X5_square
theorem dX5_move_0 : decode cX5_move 0 = .ok (.aload_n 0, 1) := by decide +kernel
theorem dX5_move_1 : decode cX5_move 1 = .ok (.iload_n 1, 1) := by decide +kernel
theorem dX5_move_2 : decode cX5_move 2 = .ok (.invokevirtual 76, 3) := by decide +kernel
theorem dX5_move_5 : decode cX5_move 5 = .ok (.ifCond .ne 5, 3) := by decide +kernel
theorem dX5_move_8 : decode cX5_move 8 = .ok (.iconst (-1), 1) := by decide +kernel
theorem dX5_move_9 : decode cX5_move 9 = .ok (.ireturn, 1) := by decide +kernel
theorem dX5_move_10 : decode cX5_move 10 = .ok (.iload_n 2, 1) := by decide +kernel
theorem dX5_move_11 : decode cX5_move 11 = .ok (.iload_n 3, 1) := by decide +kernel
theorem dX5_move_12 : decode cX5_move 12 = .ok (.invokestatic 68, 3) := by decide +kernel
theorem dX5_move_15 : decode cX5_move 15 = .ok (.ifCond .ne 6, 3) := by decide +kernel
theorem dX5_move_18 : decode cX5_move 18 = .ok (.bipush (-2), 2) := by decide +kernel
theorem dX5_move_20 : decode cX5_move 20 = .ok (.ireturn, 1) := by decide +kernel
theorem dX5_move_21 : decode cX5_move 21 = .ok (.aload_n 0, 1) := by decide +kernel
theorem dX5_move_22 : decode cX5_move 22 = .ok (.iload_n 2, 1) := by decide +kernel
theorem dX5_move_23 : decode cX5_move 23 = .ok (.iload_n 3, 1) := by decide +kernel
theorem dX5_move_24 : decode cX5_move 24 = .ok (.invokevirtual 72, 3) := by decide +kernel
theorem dX5_move_27 : decode cX5_move 27 = .ok (.istore 4, 2) := by decide +kernel
theorem dX5_move_29 : decode cX5_move 29 = .ok (.iload 4, 2) := by decide +kernel
theorem dX5_move_31 : decode cX5_move 31 = .ok (.ifCond .lt 12, 3) := by decide +kernel
theorem dX5_move_34 : decode cX5_move 34 = .ok (.iload 4, 2) := by decide +kernel
theorem dX5_move_36 : decode cX5_move 36 = .ok (.iload_n 1, 1) := by decide +kernel
theorem dX5_move_37 : decode cX5_move 37 = .ok (.if_icmp .eq 6, 3) := by decide +kernel
theorem dX5_move_40 : decode cX5_move 40 = .ok (.bipush (-5), 2) := by decide +kernel
theorem dX5_move_42 : decode cX5_move 42 = .ok (.ireturn, 1) := by decide +kernel
theorem dX5_move_43 : decode cX5_move 43 = .ok (.iload_n 2, 1) := by decide +kernel
theorem dX5_move_44 : decode cX5_move 44 = .ok (.aload_n 0, 1) := by decide +kernel
theorem dX5_move_45 : decode cX5_move 45 = .ok (.getfield 16, 3) := by decide +kernel
theorem dX5_move_48 : decode cX5_move 48 = .ok (.iload_n 1, 1) := by decide +kernel
theorem dX5_move_49 : decode cX5_move 49 = .ok (.iaload, 1) := by decide +kernel
theorem dX5_move_50 : decode cX5_move 50 = .ok (.isub, 1) := by decide +kernel
theorem dX5_move_51 : decode cX5_move 51 = .ok (.invokestatic 80, 3) := by decide +kernel
theorem dX5_move_54 : decode cX5_move 54 = .ok (.iload_n 3, 1) := by decide +kernel
theorem dX5_move_55 : decode cX5_move 55 = .ok (.aload_n 0, 1) := by decide +kernel
theorem dX5_move_56 : decode cX5_move 56 = .ok (.getfield 19, 3) := by decide +kernel
theorem dX5_move_59 : decode cX5_move 59 = .ok (.iload_n 1, 1) := by decide +kernel
theorem dX5_move_60 : decode cX5_move 60 = .ok (.iaload, 1) := by decide +kernel
theorem dX5_move_61 : decode cX5_move 61 = .ok (.isub, 1) := by decide +kernel
theorem dX5_move_62 : decode cX5_move 62 = .ok (.invokestatic 80, 3) := by decide +kernel
theorem dX5_move_65 : decode cX5_move 65 = .ok (.iadd, 1) := by decide +kernel
theorem dX5_move_66 : decode cX5_move 66 = .ok (.istore 5, 2) := by decide +kernel
theorem dX5_move_68 : decode cX5_move 68 = .ok (.aload_n 0, 1) := by decide +kernel
theorem dX5_move_69 : decode cX5_move 69 = .ok (.getfield 16, 3) := by decide +kernel
theorem dX5_move_72 : decode cX5_move 72 = .ok (.iload_n 1, 1) := by decide +kernel
theorem dX5_move_73 : decode cX5_move 73 = .ok (.iload_n 2, 1) := by decide +kernel
theorem dX5_move_74 : decode cX5_move 74 = .ok (.iastore, 1) := by decide +kernel
theorem dX5_move_75 : decode cX5_move 75 = .ok (.aload_n 0, 1) := by decide +kernel
theorem dX5_move_76 : decode cX5_move 76 = .ok (.getfield 19, 3) := by decide +kernel
theorem dX5_move_79 : decode cX5_move 79 = .ok (.iload_n 1, 1) := by decide +kernel
theorem dX5_move_80 : decode cX5_move 80 = .ok (.iload_n 3, 1) := by decide +kernel
theorem dX5_move_81 : decode cX5_move 81 = .ok (.iastore, 1) := by decide +kernel
theorem dX5_move_82 : decode cX5_move 82 = .ok (.aload_n 0, 1) := by decide +kernel
theorem dX5_move_83 : decode cX5_move 83 = .ok (.iconst 0, 1) := by decide +kernel
theorem dX5_move_84 : decode cX5_move 84 = .ok (.putfield 61, 3) := by decide +kernel
theorem dX5_move_87 : decode cX5_move 87 = .ok (.iload 5, 2) := by decide +kernel
theorem dX5_move_89 : decode cX5_move 89 = .ok (.ireturn, 1) := by decide +kernel
set_option maxRecDepth 20000 in
theorem ggX5_reach_X5_isGauge : GoodIn wsX5_reach wsX5_isGauge := goodIn_r _ [7, 8, 9, 10, 6, 11, 12, 13, 14, 15, 16, 17, 18, 19, 20, 21, 22, 23, 24, 25, 26, 27, 28, 29, 30] (by decide +kernel) (by decide +kernel)
set_option maxRecDepth 20000 in
theorem gX5_reach_X5_isGauge : GoodIn wsX5_reach (wsV RX5 76 RX5 yX5_isGauge wsX5_isGauge) := goodIn_app (goodIn_of _ (by decide +kernel)) ggX5_reach_X5_isGauge
set_option maxRecDepth 20000 in
theorem ggX5_reach_X5_in : GoodIn wsX5_reach wsX5_in := goodIn_r _ [11] (by decide +kernel) (by decide +kernel)
set_option maxRecDepth 20000 in
theorem gX5_reach_X5_in : GoodIn wsX5_reach (va_wsS RX5 57 yX5_in wsX5_in) := goodIn_app (goodIn_of _ (by decide +kernel)) ggX5_reach_X5_in
theorem dX5_reach_0 : decode cX5_reach 0 = .ok (.aload_n 0, 1) := by decide +kernel
theorem dX5_reach_1 : decode cX5_reach 1 = .ok (.iload_n 1, 1) := by decide +kernel
theorem dX5_reach_2 : decode cX5_reach 2 = .ok (.invokevirtual 76, 3) := by decide +kernel
theorem dX5_reach_5 : decode cX5_reach 5 = .ok (.ifCond .ne 5, 3) := by decide +kernel
theorem dX5_reach_8 : decode cX5_reach 8 = .ok (.iconst (-1), 1) := by decide +kernel
theorem dX5_reach_9 : decode cX5_reach 9 = .ok (.ireturn, 1) := by decide +kernel
theorem dX5_reach_10 : decode cX5_reach 10 = .ok (.iload_n 2, 1) := by decide +kernel
theorem dX5_reach_11 : decode cX5_reach 11 = .ok (.sipush (-400), 3) := by decide +kernel
theorem dX5_reach_14 : decode cX5_reach 14 = .ok (.sipush 400, 3) := by decide +kernel
theorem dX5_reach_17 : decode cX5_reach 17 = .ok (.invokestatic 57, 3) := by decide +kernel
theorem dX5_reach_20 : decode cX5_reach 20 = .ok (.ifCond .ne 6, 3) := by decide +kernel
theorem dX5_reach_23 : decode cX5_reach 23 = .ok (.bipush (-2), 2) := by decide +kernel
theorem dX5_reach_25 : decode cX5_reach 25 = .ok (.ireturn, 1) := by decide +kernel
theorem dX5_reach_26 : decode cX5_reach 26 = .ok (.aload_n 0, 1) := by decide +kernel
theorem dX5_reach_27 : decode cX5_reach 27 = .ok (.getfield 22, 3) := by decide +kernel
theorem dX5_reach_30 : decode cX5_reach 30 = .ok (.iload_n 1, 1) := by decide +kernel
theorem dX5_reach_31 : decode cX5_reach 31 = .ok (.iaload, 1) := by decide +kernel
theorem dX5_reach_32 : decode cX5_reach 32 = .ok (.istore_n 3, 1) := by decide +kernel
theorem dX5_reach_33 : decode cX5_reach 33 = .ok (.aload_n 0, 1) := by decide +kernel
theorem dX5_reach_34 : decode cX5_reach 34 = .ok (.getfield 22, 3) := by decide +kernel
theorem dX5_reach_37 : decode cX5_reach 37 = .ok (.iload_n 1, 1) := by decide +kernel
theorem dX5_reach_38 : decode cX5_reach 38 = .ok (.iload_n 2, 1) := by decide +kernel
theorem dX5_reach_39 : decode cX5_reach 39 = .ok (.iastore, 1) := by decide +kernel
theorem dX5_reach_40 : decode cX5_reach 40 = .ok (.aload_n 0, 1) := by decide +kernel
theorem dX5_reach_41 : decode cX5_reach 41 = .ok (.iconst 0, 1) := by decide +kernel
theorem dX5_reach_42 : decode cX5_reach 42 = .ok (.putfield 61, 3) := by decide +kernel
theorem dX5_reach_45 : decode cX5_reach 45 = .ok (.iload_n 3, 1) := by decide +kernel
theorem dX5_reach_46 : decode cX5_reach 46 = .ok (.sipush 1000, 3) := by decide +kernel
theorem dX5_reach_49 : decode cX5_reach 49 = .ok (.iadd, 1) := by decide +kernel
theorem dX5_reach_50 : decode cX5_reach 50 = .ok (.ireturn, 1) := by decide +kernel
theorem dX5_daysOut_0 : decode cX5_daysOut 0 = .ok (.iconst 0, 1) := by decide +kernel
theorem dX5_daysOut_1 : decode cX5_daysOut 1 = .ok (.istore_n 2, 1) := by decide +kernel
theorem dX5_daysOut_2 : decode cX5_daysOut 2 = .ok (.iconst 0, 1) := by decide +kernel
theorem dX5_daysOut_3 : decode cX5_daysOut 3 = .ok (.istore_n 3, 1) := by decide +kernel
theorem dX5_daysOut_4 : decode cX5_daysOut 4 = .ok (.iload_n 3, 1) := by decide +kernel
theorem dX5_daysOut_5 : decode cX5_daysOut 5 = .ok (.bipush 64, 2) := by decide +kernel
theorem dX5_daysOut_7 : decode cX5_daysOut 7 = .ok (.if_icmp .ge 31, 3) := by decide +kernel
theorem dX5_daysOut_10 : decode cX5_daysOut 10 = .ok (.iload_n 2, 1) := by decide +kernel
theorem dX5_daysOut_11 : decode cX5_daysOut 11 = .ok (.aload_n 0, 1) := by decide +kernel
theorem dX5_daysOut_12 : decode cX5_daysOut 12 = .ok (.getfield 25, 3) := by decide +kernel
theorem dX5_daysOut_15 : decode cX5_daysOut 15 = .ok (.bipush 64, 2) := by decide +kernel
theorem dX5_daysOut_17 : decode cX5_daysOut 17 = .ok (.iload_n 1, 1) := by decide +kernel
theorem dX5_daysOut_18 : decode cX5_daysOut 18 = .ok (.imul, 1) := by decide +kernel
theorem dX5_daysOut_19 : decode cX5_daysOut 19 = .ok (.iload_n 3, 1) := by decide +kernel
theorem dX5_daysOut_20 : decode cX5_daysOut 20 = .ok (.iadd, 1) := by decide +kernel
theorem dX5_daysOut_21 : decode cX5_daysOut 21 = .ok (.baload, 1) := by decide +kernel
theorem dX5_daysOut_22 : decode cX5_daysOut 22 = .ok (.ifCond .eq 7, 3) := by decide +kernel
theorem dX5_daysOut_25 : decode cX5_daysOut 25 = .ok (.iconst 1, 1) := by decide +kernel
theorem dX5_daysOut_26 : decode cX5_daysOut 26 = .ok (.goto 4, 3) := by decide +kernel
theorem dX5_daysOut_29 : decode cX5_daysOut 29 = .ok (.iconst 0, 1) := by decide +kernel
theorem dX5_daysOut_30 : decode cX5_daysOut 30 = .ok (.iadd, 1) := by decide +kernel
theorem dX5_daysOut_31 : decode cX5_daysOut 31 = .ok (.istore_n 2, 1) := by decide +kernel
theorem dX5_daysOut_32 : decode cX5_daysOut 32 = .ok (.iinc 3 1, 3) := by decide +kernel
theorem dX5_daysOut_35 : decode cX5_daysOut 35 = .ok (.goto (-31), 3) := by decide +kernel
theorem dX5_daysOut_38 : decode cX5_daysOut 38 = .ok (.iload_n 2, 1) := by decide +kernel
theorem dX5_daysOut_39 : decode cX5_daysOut 39 = .ok (.ireturn, 1) := by decide +kernel
set_option maxRecDepth 20000 in
theorem ggX5_fail_X5_isGauge : GoodIn wsX5_fail wsX5_isGauge := goodIn_r _ [6, 7, 8, 9, 5, 10, 18, 19, 20, 21, 22, 23, 24, 25, 26, 27, 28, 29, 30, 31, 32, 33, 34, 35, 36] (by decide +kernel) (by decide +kernel)
set_option maxRecDepth 20000 in
theorem gX5_fail_X5_isGauge : GoodIn wsX5_fail (wsV RX5 76 RX5 yX5_isGauge wsX5_isGauge) := goodIn_app (goodIn_of _ (by decide +kernel)) ggX5_fail_X5_isGauge
set_option maxRecDepth 20000 in
theorem ggX5_fail_X5_isDay : GoodIn wsX5_fail wsX5_isDay := goodIn_r _ [13, 8, 9, 5, 10] (by decide +kernel) (by decide +kernel)
set_option maxRecDepth 20000 in
theorem gX5_fail_X5_isDay : GoodIn wsX5_fail (va_wsS RX5 84 yX5_isDay wsX5_isDay) := goodIn_app (goodIn_of _ (by decide +kernel)) ggX5_fail_X5_isDay
set_option maxRecDepth 20000 in
theorem ggX5_fail_X5_in : GoodIn wsX5_fail wsX5_in := goodIn_r _ [10] (by decide +kernel) (by decide +kernel)
set_option maxRecDepth 20000 in
theorem gX5_fail_X5_in : GoodIn wsX5_fail (va_wsS RX5 57 yX5_in wsX5_in) := goodIn_app (goodIn_of _ (by decide +kernel)) ggX5_fail_X5_in
set_option maxRecDepth 20000 in
theorem ggX5_fail_X5_daysOut : GoodIn wsX5_fail wsX5_daysOut := goodIn_r _ [17, 1, 18, 19, 20, 21, 22, 23, 24, 25, 26, 27, 28, 29, 30, 31, 32, 33, 34, 35, 36] (by decide +kernel) (by decide +kernel)
set_option maxRecDepth 20000 in
theorem gX5_fail_X5_daysOut : GoodIn wsX5_fail (wsV RX5 87 RX5 yX5_daysOut wsX5_daysOut) := goodIn_app (goodIn_of _ (by decide +kernel)) ggX5_fail_X5_daysOut
theorem dX5_fail_0 : decode cX5_fail 0 = .ok (.aload_n 0, 1) := by decide +kernel
theorem dX5_fail_1 : decode cX5_fail 1 = .ok (.iload_n 1, 1) := by decide +kernel
theorem dX5_fail_2 : decode cX5_fail 2 = .ok (.invokevirtual 76, 3) := by decide +kernel
theorem dX5_fail_5 : decode cX5_fail 5 = .ok (.ifCond .ne 5, 3) := by decide +kernel
theorem dX5_fail_8 : decode cX5_fail 8 = .ok (.iconst (-1), 1) := by decide +kernel
theorem dX5_fail_9 : decode cX5_fail 9 = .ok (.ireturn, 1) := by decide +kernel
theorem dX5_fail_10 : decode cX5_fail 10 = .ok (.iload_n 2, 1) := by decide +kernel
theorem dX5_fail_11 : decode cX5_fail 11 = .ok (.invokestatic 84, 3) := by decide +kernel
theorem dX5_fail_14 : decode cX5_fail 14 = .ok (.ifCond .eq 25, 3) := by decide +kernel
theorem dX5_fail_17 : decode cX5_fail 17 = .ok (.iload_n 3, 1) := by decide +kernel
theorem dX5_fail_18 : decode cX5_fail 18 = .ok (.invokestatic 84, 3) := by decide +kernel
theorem dX5_fail_21 : decode cX5_fail 21 = .ok (.ifCond .eq 18, 3) := by decide +kernel
theorem dX5_fail_24 : decode cX5_fail 24 = .ok (.iload_n 2, 1) := by decide +kernel
theorem dX5_fail_25 : decode cX5_fail 25 = .ok (.iload_n 3, 1) := by decide +kernel
theorem dX5_fail_26 : decode cX5_fail 26 = .ok (.if_icmp .gt 13, 3) := by decide +kernel
theorem dX5_fail_29 : decode cX5_fail 29 = .ok (.iload 4, 2) := by decide +kernel
theorem dX5_fail_31 : decode cX5_fail 31 = .ok (.iconst 0, 1) := by decide +kernel
theorem dX5_fail_32 : decode cX5_fail 32 = .ok (.iconst 1, 1) := by decide +kernel
theorem dX5_fail_33 : decode cX5_fail 33 = .ok (.invokestatic 57, 3) := by decide +kernel
theorem dX5_fail_36 : decode cX5_fail 36 = .ok (.ifCond .ne 6, 3) := by decide +kernel
theorem dX5_fail_39 : decode cX5_fail 39 = .ok (.bipush (-2), 2) := by decide +kernel
theorem dX5_fail_41 : decode cX5_fail 41 = .ok (.ireturn, 1) := by decide +kernel
theorem dX5_fail_42 : decode cX5_fail 42 = .ok (.iload_n 2, 1) := by decide +kernel
theorem dX5_fail_43 : decode cX5_fail 43 = .ok (.istore 5, 2) := by decide +kernel
theorem dX5_fail_45 : decode cX5_fail 45 = .ok (.iload 5, 2) := by decide +kernel
theorem dX5_fail_47 : decode cX5_fail 47 = .ok (.iload_n 3, 1) := by decide +kernel
theorem dX5_fail_48 : decode cX5_fail 48 = .ok (.if_icmp .gt 32, 3) := by decide +kernel
theorem dX5_fail_51 : decode cX5_fail 51 = .ok (.aload_n 0, 1) := by decide +kernel
theorem dX5_fail_52 : decode cX5_fail 52 = .ok (.getfield 25, 3) := by decide +kernel
theorem dX5_fail_55 : decode cX5_fail 55 = .ok (.bipush 64, 2) := by decide +kernel
theorem dX5_fail_57 : decode cX5_fail 57 = .ok (.iload_n 1, 1) := by decide +kernel
theorem dX5_fail_58 : decode cX5_fail 58 = .ok (.imul, 1) := by decide +kernel
theorem dX5_fail_59 : decode cX5_fail 59 = .ok (.iload 5, 2) := by decide +kernel
theorem dX5_fail_61 : decode cX5_fail 61 = .ok (.iadd, 1) := by decide +kernel
theorem dX5_fail_62 : decode cX5_fail 62 = .ok (.iload 4, 2) := by decide +kernel
theorem dX5_fail_64 : decode cX5_fail 64 = .ok (.iconst 1, 1) := by decide +kernel
theorem dX5_fail_65 : decode cX5_fail 65 = .ok (.if_icmp .ne 7, 3) := by decide +kernel
theorem dX5_fail_68 : decode cX5_fail 68 = .ok (.iconst 1, 1) := by decide +kernel
theorem dX5_fail_69 : decode cX5_fail 69 = .ok (.goto 4, 3) := by decide +kernel
theorem dX5_fail_72 : decode cX5_fail 72 = .ok (.iconst 0, 1) := by decide +kernel
theorem dX5_fail_73 : decode cX5_fail 73 = .ok (.bastore, 1) := by decide +kernel
theorem dX5_fail_74 : decode cX5_fail 74 = .ok (.iinc 5 1, 3) := by decide +kernel
theorem dX5_fail_77 : decode cX5_fail 77 = .ok (.goto (-32), 3) := by decide +kernel
theorem dX5_fail_80 : decode cX5_fail 80 = .ok (.aload_n 0, 1) := by decide +kernel
theorem dX5_fail_81 : decode cX5_fail 81 = .ok (.iload_n 1, 1) := by decide +kernel
theorem dX5_fail_82 : decode cX5_fail 82 = .ok (.invokevirtual 87, 3) := by decide +kernel
theorem dX5_fail_85 : decode cX5_fail 85 = .ok (.ireturn, 1) := by decide +kernel
set_option maxRecDepth 20000 in
theorem ggX5_rain_X5_isGauge : GoodIn wsX5_rain wsX5_isGauge := goodIn_r _ [6, 7, 8, 9, 5, 10, 14, 15, 16, 17, 18, 19, 20, 21, 22, 23, 24, 25, 26, 27, 28, 29, 30, 31, 32] (by decide +kernel) (by decide +kernel)
set_option maxRecDepth 20000 in
theorem gX5_rain_X5_isGauge : GoodIn wsX5_rain (wsV RX5 76 RX5 yX5_isGauge wsX5_isGauge) := goodIn_app (goodIn_of _ (by decide +kernel)) ggX5_rain_X5_isGauge
set_option maxRecDepth 20000 in
theorem ggX5_rain_X5_isDay : GoodIn wsX5_rain wsX5_isDay := goodIn_r _ [13, 8, 9, 5, 10] (by decide +kernel) (by decide +kernel)
set_option maxRecDepth 20000 in
theorem gX5_rain_X5_isDay : GoodIn wsX5_rain (va_wsS RX5 84 yX5_isDay wsX5_isDay) := goodIn_app (goodIn_of _ (by decide +kernel)) ggX5_rain_X5_isDay
set_option maxRecDepth 20000 in
theorem ggX5_rain_X5_in : GoodIn wsX5_rain wsX5_in := goodIn_r _ [10] (by decide +kernel) (by decide +kernel)
set_option maxRecDepth 20000 in
theorem gX5_rain_X5_in : GoodIn wsX5_rain (va_wsS RX5 57 yX5_in wsX5_in) := goodIn_app (goodIn_of _ (by decide +kernel)) ggX5_rain_X5_in
theorem dX5_rain_0 : decode cX5_rain 0 = .ok (.aload_n 0, 1) := by decide +kernel
theorem dX5_rain_1 : decode cX5_rain 1 = .ok (.iload_n 1, 1) := by decide +kernel
theorem dX5_rain_2 : decode cX5_rain 2 = .ok (.invokevirtual 76, 3) := by decide +kernel
theorem dX5_rain_5 : decode cX5_rain 5 = .ok (.ifCond .ne 5, 3) := by decide +kernel
theorem dX5_rain_8 : decode cX5_rain 8 = .ok (.iconst (-1), 1) := by decide +kernel
theorem dX5_rain_9 : decode cX5_rain 9 = .ok (.ireturn, 1) := by decide +kernel
theorem dX5_rain_10 : decode cX5_rain 10 = .ok (.iload_n 2, 1) := by decide +kernel
theorem dX5_rain_11 : decode cX5_rain 11 = .ok (.invokestatic 84, 3) := by decide +kernel
theorem dX5_rain_14 : decode cX5_rain 14 = .ok (.ifCond .eq 20, 3) := by decide +kernel
theorem dX5_rain_17 : decode cX5_rain 17 = .ok (.iload_n 3, 1) := by decide +kernel
theorem dX5_rain_18 : decode cX5_rain 18 = .ok (.bipush (-6), 2) := by decide +kernel
theorem dX5_rain_20 : decode cX5_rain 20 = .ok (.if_icmp .eq 17, 3) := by decide +kernel
theorem dX5_rain_23 : decode cX5_rain 23 = .ok (.iload_n 3, 1) := by decide +kernel
theorem dX5_rain_24 : decode cX5_rain 24 = .ok (.iconst 0, 1) := by decide +kernel
theorem dX5_rain_25 : decode cX5_rain 25 = .ok (.sipush 9999, 3) := by decide +kernel
theorem dX5_rain_28 : decode cX5_rain 28 = .ok (.invokestatic 57, 3) := by decide +kernel
theorem dX5_rain_31 : decode cX5_rain 31 = .ok (.ifCond .ne 6, 3) := by decide +kernel
theorem dX5_rain_34 : decode cX5_rain 34 = .ok (.bipush (-2), 2) := by decide +kernel
theorem dX5_rain_36 : decode cX5_rain 36 = .ok (.ireturn, 1) := by decide +kernel
theorem dX5_rain_37 : decode cX5_rain 37 = .ok (.aload_n 0, 1) := by decide +kernel
theorem dX5_rain_38 : decode cX5_rain 38 = .ok (.getfield 29, 3) := by decide +kernel
theorem dX5_rain_41 : decode cX5_rain 41 = .ok (.bipush 64, 2) := by decide +kernel
theorem dX5_rain_43 : decode cX5_rain 43 = .ok (.iload_n 1, 1) := by decide +kernel
theorem dX5_rain_44 : decode cX5_rain 44 = .ok (.imul, 1) := by decide +kernel
theorem dX5_rain_45 : decode cX5_rain 45 = .ok (.iload_n 2, 1) := by decide +kernel
theorem dX5_rain_46 : decode cX5_rain 46 = .ok (.iadd, 1) := by decide +kernel
theorem dX5_rain_47 : decode cX5_rain 47 = .ok (.iaload, 1) := by decide +kernel
theorem dX5_rain_48 : decode cX5_rain 48 = .ok (.istore 4, 2) := by decide +kernel
theorem dX5_rain_50 : decode cX5_rain 50 = .ok (.aload_n 0, 1) := by decide +kernel
theorem dX5_rain_51 : decode cX5_rain 51 = .ok (.getfield 29, 3) := by decide +kernel
theorem dX5_rain_54 : decode cX5_rain 54 = .ok (.bipush 64, 2) := by decide +kernel
theorem dX5_rain_56 : decode cX5_rain 56 = .ok (.iload_n 1, 1) := by decide +kernel
theorem dX5_rain_57 : decode cX5_rain 57 = .ok (.imul, 1) := by decide +kernel
theorem dX5_rain_58 : decode cX5_rain 58 = .ok (.iload_n 2, 1) := by decide +kernel
theorem dX5_rain_59 : decode cX5_rain 59 = .ok (.iadd, 1) := by decide +kernel
theorem dX5_rain_60 : decode cX5_rain 60 = .ok (.iload_n 3, 1) := by decide +kernel
theorem dX5_rain_61 : decode cX5_rain 61 = .ok (.iastore, 1) := by decide +kernel
theorem dX5_rain_62 : decode cX5_rain 62 = .ok (.iload 4, 2) := by decide +kernel
theorem dX5_rain_64 : decode cX5_rain 64 = .ok (.ireturn, 1) := by decide +kernel
theorem dX5_daysRead_0 : decode cX5_daysRead 0 = .ok (.iconst 0, 1) := by decide +kernel
theorem dX5_daysRead_1 : decode cX5_daysRead 1 = .ok (.istore_n 2, 1) := by decide +kernel
theorem dX5_daysRead_2 : decode cX5_daysRead 2 = .ok (.iconst 0, 1) := by decide +kernel
theorem dX5_daysRead_3 : decode cX5_daysRead 3 = .ok (.istore_n 3, 1) := by decide +kernel
theorem dX5_daysRead_4 : decode cX5_daysRead 4 = .ok (.iload_n 3, 1) := by decide +kernel
theorem dX5_daysRead_5 : decode cX5_daysRead 5 = .ok (.bipush 64, 2) := by decide +kernel
theorem dX5_daysRead_7 : decode cX5_daysRead 7 = .ok (.if_icmp .ge 31, 3) := by decide +kernel
theorem dX5_daysRead_10 : decode cX5_daysRead 10 = .ok (.iload_n 2, 1) := by decide +kernel
theorem dX5_daysRead_11 : decode cX5_daysRead 11 = .ok (.aload_n 0, 1) := by decide +kernel
theorem dX5_daysRead_12 : decode cX5_daysRead 12 = .ok (.getfield 29, 3) := by decide +kernel
theorem dX5_daysRead_15 : decode cX5_daysRead 15 = .ok (.bipush 64, 2) := by decide +kernel
theorem dX5_daysRead_17 : decode cX5_daysRead 17 = .ok (.iload_n 1, 1) := by decide +kernel
theorem dX5_daysRead_18 : decode cX5_daysRead 18 = .ok (.imul, 1) := by decide +kernel
theorem dX5_daysRead_19 : decode cX5_daysRead 19 = .ok (.iload_n 3, 1) := by decide +kernel
theorem dX5_daysRead_20 : decode cX5_daysRead 20 = .ok (.iadd, 1) := by decide +kernel
theorem dX5_daysRead_21 : decode cX5_daysRead 21 = .ok (.iaload, 1) := by decide +kernel
theorem dX5_daysRead_22 : decode cX5_daysRead 22 = .ok (.ifCond .lt 7, 3) := by decide +kernel
theorem dX5_daysRead_25 : decode cX5_daysRead 25 = .ok (.iconst 1, 1) := by decide +kernel
theorem dX5_daysRead_26 : decode cX5_daysRead 26 = .ok (.goto 4, 3) := by decide +kernel
theorem dX5_daysRead_29 : decode cX5_daysRead 29 = .ok (.iconst 0, 1) := by decide +kernel
theorem dX5_daysRead_30 : decode cX5_daysRead 30 = .ok (.iadd, 1) := by decide +kernel
theorem dX5_daysRead_31 : decode cX5_daysRead 31 = .ok (.istore_n 2, 1) := by decide +kernel
theorem dX5_daysRead_32 : decode cX5_daysRead 32 = .ok (.iinc 3 1, 3) := by decide +kernel
theorem dX5_daysRead_35 : decode cX5_daysRead 35 = .ok (.goto (-31), 3) := by decide +kernel
theorem dX5_daysRead_38 : decode cX5_daysRead 38 = .ok (.iload_n 2, 1) := by decide +kernel
theorem dX5_daysRead_39 : decode cX5_daysRead 39 = .ok (.ireturn, 1) := by decide +kernel
set_option maxRecDepth 20000 in
theorem ggX5_of_X5_isGauge : GoodIn wsX5_of wsX5_isGauge := goodIn_r _ [8, 9, 10, 11, 7, 12, 23, 24, 25, 26, 27, 28, 29, 30, 31, 32, 33, 34, 35, 36, 37, 38, 39, 40, 41] (by decide +kernel) (by decide +kernel)
set_option maxRecDepth 20000 in
theorem gX5_of_X5_isGauge : GoodIn wsX5_of (wsV RX5 76 RX5 yX5_isGauge wsX5_isGauge) := goodIn_app (goodIn_of _ (by decide +kernel)) ggX5_of_X5_isGauge
set_option maxRecDepth 20000 in
theorem ggX5_of_X5_daysOut : GoodIn wsX5_of wsX5_daysOut := goodIn_r _ [16, 17, 23, 24, 25, 26, 27, 28, 29, 30, 31, 32, 33, 34, 35, 36, 37, 38, 39, 40, 41] (by decide +kernel) (by decide +kernel)
set_option maxRecDepth 20000 in
theorem gX5_of_X5_daysOut : GoodIn wsX5_of (wsV RX5 87 RX5 yX5_daysOut wsX5_daysOut) := goodIn_app (goodIn_of _ (by decide +kernel)) ggX5_of_X5_daysOut
set_option maxRecDepth 20000 in
theorem ggX5_of_X5_daysRead : GoodIn wsX5_of wsX5_daysRead := goodIn_r _ [21, 22, 23, 24, 25, 26, 27, 28, 29, 30, 31, 32, 33, 34, 35, 36, 37, 38, 39, 40, 41] (by decide +kernel) (by decide +kernel)
set_option maxRecDepth 20000 in
theorem gX5_of_X5_daysRead : GoodIn wsX5_of (wsV RX5 90 RX5 yX5_daysRead wsX5_daysRead) := goodIn_app (goodIn_of _ (by decide +kernel)) ggX5_of_X5_daysRead
theorem dX5_of_0 : decode cX5_of 0 = .ok (.aload_n 0, 1) := by decide +kernel
theorem dX5_of_1 : decode cX5_of 1 = .ok (.iload_n 1, 1) := by decide +kernel
theorem dX5_of_2 : decode cX5_of 2 = .ok (.invokevirtual 76, 3) := by decide +kernel
theorem dX5_of_5 : decode cX5_of 5 = .ok (.ifCond .ne 5, 3) := by decide +kernel
theorem dX5_of_8 : decode cX5_of 8 = .ok (.iconst (-1), 1) := by decide +kernel
theorem dX5_of_9 : decode cX5_of 9 = .ok (.ireturn, 1) := by decide +kernel
theorem dX5_of_10 : decode cX5_of 10 = .ok (.iload_n 2, 1) := by decide +kernel
theorem dX5_of_11 : decode cX5_of 11 = .ok (.tableswitch 78 0 4 #[33, 44, 55, 66, 72], 33) := by decide +kernel
theorem dX5_of_44 : decode cX5_of 44 = .ok (.aload_n 0, 1) := by decide +kernel
theorem dX5_of_45 : decode cX5_of 45 = .ok (.getfield 16, 3) := by decide +kernel
theorem dX5_of_48 : decode cX5_of 48 = .ok (.iload_n 1, 1) := by decide +kernel
theorem dX5_of_49 : decode cX5_of 49 = .ok (.iaload, 1) := by decide +kernel
theorem dX5_of_50 : decode cX5_of 50 = .ok (.sipush 1000, 3) := by decide +kernel
theorem dX5_of_53 : decode cX5_of 53 = .ok (.iadd, 1) := by decide +kernel
theorem dX5_of_54 : decode cX5_of 54 = .ok (.ireturn, 1) := by decide +kernel
theorem dX5_of_55 : decode cX5_of 55 = .ok (.aload_n 0, 1) := by decide +kernel
theorem dX5_of_56 : decode cX5_of 56 = .ok (.getfield 19, 3) := by decide +kernel
theorem dX5_of_59 : decode cX5_of 59 = .ok (.iload_n 1, 1) := by decide +kernel
theorem dX5_of_60 : decode cX5_of 60 = .ok (.iaload, 1) := by decide +kernel
theorem dX5_of_61 : decode cX5_of 61 = .ok (.sipush 1000, 3) := by decide +kernel
theorem dX5_of_64 : decode cX5_of 64 = .ok (.iadd, 1) := by decide +kernel
theorem dX5_of_65 : decode cX5_of 65 = .ok (.ireturn, 1) := by decide +kernel
theorem dX5_of_66 : decode cX5_of 66 = .ok (.aload_n 0, 1) := by decide +kernel
theorem dX5_of_67 : decode cX5_of 67 = .ok (.getfield 22, 3) := by decide +kernel
theorem dX5_of_70 : decode cX5_of 70 = .ok (.iload_n 1, 1) := by decide +kernel
theorem dX5_of_71 : decode cX5_of 71 = .ok (.iaload, 1) := by decide +kernel
theorem dX5_of_72 : decode cX5_of 72 = .ok (.sipush 1000, 3) := by decide +kernel
theorem dX5_of_75 : decode cX5_of 75 = .ok (.iadd, 1) := by decide +kernel
theorem dX5_of_76 : decode cX5_of 76 = .ok (.ireturn, 1) := by decide +kernel
theorem dX5_of_77 : decode cX5_of 77 = .ok (.aload_n 0, 1) := by decide +kernel
theorem dX5_of_78 : decode cX5_of 78 = .ok (.iload_n 1, 1) := by decide +kernel
theorem dX5_of_79 : decode cX5_of 79 = .ok (.invokevirtual 87, 3) := by decide +kernel
theorem dX5_of_82 : decode cX5_of 82 = .ok (.ireturn, 1) := by decide +kernel
theorem dX5_of_83 : decode cX5_of 83 = .ok (.aload_n 0, 1) := by decide +kernel
theorem dX5_of_84 : decode cX5_of 84 = .ok (.iload_n 1, 1) := by decide +kernel
theorem dX5_of_85 : decode cX5_of 85 = .ok (.invokevirtual 90, 3) := by decide +kernel
theorem dX5_of_88 : decode cX5_of 88 = .ok (.ireturn, 1) := by decide +kernel
theorem dX5_of_89 : decode cX5_of 89 = .ok (.bipush (-2), 2) := by decide +kernel
theorem dX5_of_91 : decode cX5_of 91 = .ok (.ireturn, 1) := by decide +kernel
set_option maxRecDepth 20000 in
theorem ggX5_reading_X5_isGauge : GoodIn wsX5_reading wsX5_isGauge := goodIn_r _ [6, 7, 8, 9, 5, 10, 14, 15, 16, 17, 18, 19, 20, 21, 22, 23, 24, 25, 26, 27, 28, 29, 30, 31, 32] (by decide +kernel) (by decide +kernel)
set_option maxRecDepth 20000 in
theorem gX5_reading_X5_isGauge : GoodIn wsX5_reading (wsV RX5 76 RX5 yX5_isGauge wsX5_isGauge) := goodIn_app (goodIn_of _ (by decide +kernel)) ggX5_reading_X5_isGauge
set_option maxRecDepth 20000 in
theorem ggX5_reading_X5_isDay : GoodIn wsX5_reading wsX5_isDay := goodIn_r _ [13, 8, 9, 5, 10] (by decide +kernel) (by decide +kernel)
set_option maxRecDepth 20000 in
theorem gX5_reading_X5_isDay : GoodIn wsX5_reading (va_wsS RX5 84 yX5_isDay wsX5_isDay) := goodIn_app (goodIn_of _ (by decide +kernel)) ggX5_reading_X5_isDay
theorem dX5_reading_0 : decode cX5_reading 0 = .ok (.aload_n 0, 1) := by decide +kernel
theorem dX5_reading_1 : decode cX5_reading 1 = .ok (.iload_n 1, 1) := by decide +kernel
theorem dX5_reading_2 : decode cX5_reading 2 = .ok (.invokevirtual 76, 3) := by decide +kernel
theorem dX5_reading_5 : decode cX5_reading 5 = .ok (.ifCond .ne 5, 3) := by decide +kernel
theorem dX5_reading_8 : decode cX5_reading 8 = .ok (.iconst (-1), 1) := by decide +kernel
theorem dX5_reading_9 : decode cX5_reading 9 = .ok (.ireturn, 1) := by decide +kernel
theorem dX5_reading_10 : decode cX5_reading 10 = .ok (.iload_n 2, 1) := by decide +kernel
theorem dX5_reading_11 : decode cX5_reading 11 = .ok (.invokestatic 84, 3) := by decide +kernel
theorem dX5_reading_14 : decode cX5_reading 14 = .ok (.ifCond .eq 17, 3) := by decide +kernel
theorem dX5_reading_17 : decode cX5_reading 17 = .ok (.aload_n 0, 1) := by decide +kernel
theorem dX5_reading_18 : decode cX5_reading 18 = .ok (.getfield 29, 3) := by decide +kernel
theorem dX5_reading_21 : decode cX5_reading 21 = .ok (.bipush 64, 2) := by decide +kernel
theorem dX5_reading_23 : decode cX5_reading 23 = .ok (.iload_n 1, 1) := by decide +kernel
theorem dX5_reading_24 : decode cX5_reading 24 = .ok (.imul, 1) := by decide +kernel
theorem dX5_reading_25 : decode cX5_reading 25 = .ok (.iload_n 2, 1) := by decide +kernel
theorem dX5_reading_26 : decode cX5_reading 26 = .ok (.iadd, 1) := by decide +kernel
theorem dX5_reading_27 : decode cX5_reading 27 = .ok (.iaload, 1) := by decide +kernel
theorem dX5_reading_28 : decode cX5_reading 28 = .ok (.goto 5, 3) := by decide +kernel
theorem dX5_reading_31 : decode cX5_reading 31 = .ok (.bipush (-2), 2) := by decide +kernel
theorem dX5_reading_33 : decode cX5_reading 33 = .ok (.ireturn, 1) := by decide +kernel
theorem dX5_workingOn_0 : decode cX5_workingOn 0 = .ok (.iconst 0, 1) := by decide +kernel
theorem dX5_workingOn_1 : decode cX5_workingOn 1 = .ok (.istore_n 2, 1) := by decide +kernel
theorem dX5_workingOn_2 : decode cX5_workingOn 2 = .ok (.iconst 0, 1) := by decide +kernel
theorem dX5_workingOn_3 : decode cX5_workingOn 3 = .ok (.istore_n 3, 1) := by decide +kernel
theorem dX5_workingOn_4 : decode cX5_workingOn 4 = .ok (.iload_n 3, 1) := by decide +kernel
theorem dX5_workingOn_5 : decode cX5_workingOn 5 = .ok (.aload_n 0, 1) := by decide +kernel
theorem dX5_workingOn_6 : decode cX5_workingOn 6 = .ok (.getfield 53, 3) := by decide +kernel
theorem dX5_workingOn_9 : decode cX5_workingOn 9 = .ok (.if_icmp .ge 47, 3) := by decide +kernel
theorem dX5_workingOn_12 : decode cX5_workingOn 12 = .ok (.iload_n 2, 1) := by decide +kernel
theorem dX5_workingOn_13 : decode cX5_workingOn 13 = .ok (.aload_n 0, 1) := by decide +kernel
theorem dX5_workingOn_14 : decode cX5_workingOn 14 = .ok (.getfield 25, 3) := by decide +kernel
theorem dX5_workingOn_17 : decode cX5_workingOn 17 = .ok (.bipush 64, 2) := by decide +kernel
theorem dX5_workingOn_19 : decode cX5_workingOn 19 = .ok (.iload_n 3, 1) := by decide +kernel
theorem dX5_workingOn_20 : decode cX5_workingOn 20 = .ok (.imul, 1) := by decide +kernel
theorem dX5_workingOn_21 : decode cX5_workingOn 21 = .ok (.iload_n 1, 1) := by decide +kernel
theorem dX5_workingOn_22 : decode cX5_workingOn 22 = .ok (.iadd, 1) := by decide +kernel
theorem dX5_workingOn_23 : decode cX5_workingOn 23 = .ok (.baload, 1) := by decide +kernel
theorem dX5_workingOn_24 : decode cX5_workingOn 24 = .ok (.ifCond .ne 23, 3) := by decide +kernel
theorem dX5_workingOn_27 : decode cX5_workingOn 27 = .ok (.aload_n 0, 1) := by decide +kernel
theorem dX5_workingOn_28 : decode cX5_workingOn 28 = .ok (.getfield 29, 3) := by decide +kernel
theorem dX5_workingOn_31 : decode cX5_workingOn 31 = .ok (.bipush 64, 2) := by decide +kernel
theorem dX5_workingOn_33 : decode cX5_workingOn 33 = .ok (.iload_n 3, 1) := by decide +kernel
theorem dX5_workingOn_34 : decode cX5_workingOn 34 = .ok (.imul, 1) := by decide +kernel
theorem dX5_workingOn_35 : decode cX5_workingOn 35 = .ok (.iload_n 1, 1) := by decide +kernel
theorem dX5_workingOn_36 : decode cX5_workingOn 36 = .ok (.iadd, 1) := by decide +kernel
theorem dX5_workingOn_37 : decode cX5_workingOn 37 = .ok (.iaload, 1) := by decide +kernel
theorem dX5_workingOn_38 : decode cX5_workingOn 38 = .ok (.ifCond .lt 9, 3) := by decide +kernel
theorem dX5_workingOn_41 : decode cX5_workingOn 41 = .ok (.iconst 1, 1) := by decide +kernel
theorem dX5_workingOn_42 : decode cX5_workingOn 42 = .ok (.iload_n 3, 1) := by decide +kernel
theorem dX5_workingOn_43 : decode cX5_workingOn 43 = .ok (.ishl, 1) := by decide +kernel
theorem dX5_workingOn_44 : decode cX5_workingOn 44 = .ok (.goto 4, 3) := by decide +kernel
theorem dX5_workingOn_47 : decode cX5_workingOn 47 = .ok (.iconst 0, 1) := by decide +kernel
theorem dX5_workingOn_48 : decode cX5_workingOn 48 = .ok (.ior, 1) := by decide +kernel
theorem dX5_workingOn_49 : decode cX5_workingOn 49 = .ok (.istore_n 2, 1) := by decide +kernel
theorem dX5_workingOn_50 : decode cX5_workingOn 50 = .ok (.iinc 3 1, 3) := by decide +kernel
theorem dX5_workingOn_53 : decode cX5_workingOn 53 = .ok (.goto (-49), 3) := by decide +kernel
theorem dX5_workingOn_56 : decode cX5_workingOn 56 = .ok (.iload_n 2, 1) := by decide +kernel
theorem dX5_workingOn_57 : decode cX5_workingOn 57 = .ok (.ireturn, 1) := by decide +kernel
set_option maxRecDepth 20000 in
theorem ggX5_working_X5_isDay : GoodIn wsX5_working wsX5_isDay := goodIn_r _ [4, 5, 6, 3, 7] (by decide +kernel) (by decide +kernel)
set_option maxRecDepth 20000 in
theorem gX5_working_X5_isDay : GoodIn wsX5_working (va_wsS RX5 84 yX5_isDay wsX5_isDay) := goodIn_app (goodIn_of _ (by decide +kernel)) ggX5_working_X5_isDay
set_option maxRecDepth 20000 in
theorem ggX5_working_X5_workingOn : GoodIn wsX5_working wsX5_workingOn := goodIn_r _ [11, 12, 13, 14, 15, 16, 17, 18, 19, 20, 21, 22, 23, 24, 25, 26, 27, 28, 29, 30, 31, 32, 33] (by decide +kernel) (by decide +kernel)
set_option maxRecDepth 20000 in
theorem gX5_working_X5_workingOn : GoodIn wsX5_working (wsV RX5 93 RX5 yX5_workingOn wsX5_workingOn) := goodIn_app (goodIn_of _ (by decide +kernel)) ggX5_working_X5_workingOn
theorem dX5_working_0 : decode cX5_working 0 = .ok (.iload_n 1, 1) := by decide +kernel
theorem dX5_working_1 : decode cX5_working 1 = .ok (.invokestatic 84, 3) := by decide +kernel
theorem dX5_working_4 : decode cX5_working 4 = .ok (.ifCond .eq 11, 3) := by decide +kernel
theorem dX5_working_7 : decode cX5_working 7 = .ok (.aload_n 0, 1) := by decide +kernel
theorem dX5_working_8 : decode cX5_working 8 = .ok (.iload_n 1, 1) := by decide +kernel
theorem dX5_working_9 : decode cX5_working 9 = .ok (.invokevirtual 93, 3) := by decide +kernel
theorem dX5_working_12 : decode cX5_working 12 = .ok (.goto 5, 3) := by decide +kernel
theorem dX5_working_15 : decode cX5_working 15 = .ok (.bipush (-2), 2) := by decide +kernel
theorem dX5_working_17 : decode cX5_working 17 = .ok (.ireturn, 1) := by decide +kernel
set_option maxRecDepth 20000 in
theorem ggX5_far_X5_square : GoodIn wsX5_far wsX5_square := goodIn_r _ [6] (by decide +kernel) (by decide +kernel)
set_option maxRecDepth 20000 in
theorem gX5_far_X5_square : GoodIn wsX5_far (va_wsS RX5 80 yX5_square wsX5_square) := goodIn_app (goodIn_of _ (by decide +kernel)) ggX5_far_X5_square
theorem dX5_far_0 : decode cX5_far 0 = .ok (.iload_n 2, 1) := by decide +kernel
theorem dX5_far_1 : decode cX5_far 1 = .ok (.aload_n 0, 1) := by decide +kernel
theorem dX5_far_2 : decode cX5_far 2 = .ok (.getfield 16, 3) := by decide +kernel
theorem dX5_far_5 : decode cX5_far 5 = .ok (.iload_n 1, 1) := by decide +kernel
theorem dX5_far_6 : decode cX5_far 6 = .ok (.iaload, 1) := by decide +kernel
theorem dX5_far_7 : decode cX5_far 7 = .ok (.isub, 1) := by decide +kernel
theorem dX5_far_8 : decode cX5_far 8 = .ok (.invokestatic 80, 3) := by decide +kernel
theorem dX5_far_11 : decode cX5_far 11 = .ok (.iload_n 3, 1) := by decide +kernel
theorem dX5_far_12 : decode cX5_far 12 = .ok (.aload_n 0, 1) := by decide +kernel
theorem dX5_far_13 : decode cX5_far 13 = .ok (.getfield 19, 3) := by decide +kernel
theorem dX5_far_16 : decode cX5_far 16 = .ok (.iload_n 1, 1) := by decide +kernel
theorem dX5_far_17 : decode cX5_far 17 = .ok (.iaload, 1) := by decide +kernel
theorem dX5_far_18 : decode cX5_far 18 = .ok (.isub, 1) := by decide +kernel
theorem dX5_far_19 : decode cX5_far 19 = .ok (.invokestatic 80, 3) := by decide +kernel
theorem dX5_far_22 : decode cX5_far 22 = .ok (.iadd, 1) := by decide +kernel
theorem dX5_far_23 : decode cX5_far 23 = .ok (.ireturn, 1) := by decide +kernel
set_option maxRecDepth 20000 in
theorem ggX5_ownerOf_X5_far : GoodIn wsX5_ownerOf wsX5_far := goodIn_r _ [7, 8, 9, 10, 11, 6, 12, 16, 17, 18, 19, 20, 21, 22, 23, 24, 25, 26, 27, 28, 29, 30, 31, 32, 33, 34] (by decide +kernel) (by decide +kernel)
set_option maxRecDepth 20000 in
theorem gX5_ownerOf_X5_far : GoodIn wsX5_ownerOf (wsV RX5 96 RX5 yX5_far wsX5_far) := goodIn_app (goodIn_of _ (by decide +kernel)) ggX5_ownerOf_X5_far
set_option maxRecDepth 20000 in
theorem ggX5_ownerOf_X5_has : GoodIn wsX5_ownerOf wsX5_has := goodIn_r _ [15] (by decide +kernel) (by decide +kernel)
set_option maxRecDepth 20000 in
theorem gX5_ownerOf_X5_has : GoodIn wsX5_ownerOf (va_wsS RX5 100 yX5_has wsX5_has) := goodIn_app (goodIn_of _ (by decide +kernel)) ggX5_ownerOf_X5_has
theorem dX5_ownerOf_0 : decode cX5_ownerOf 0 = .ok (.bipush (-6), 2) := by decide +kernel
theorem dX5_ownerOf_2 : decode cX5_ownerOf 2 = .ok (.istore 4, 2) := by decide +kernel
theorem dX5_ownerOf_4 : decode cX5_ownerOf 4 = .ok (.iconst 0, 1) := by decide +kernel
theorem dX5_ownerOf_5 : decode cX5_ownerOf 5 = .ok (.istore 5, 2) := by decide +kernel
theorem dX5_ownerOf_7 : decode cX5_ownerOf 7 = .ok (.iconst 0, 1) := by decide +kernel
theorem dX5_ownerOf_8 : decode cX5_ownerOf 8 = .ok (.istore 6, 2) := by decide +kernel
theorem dX5_ownerOf_10 : decode cX5_ownerOf 10 = .ok (.iload 6, 2) := by decide +kernel
theorem dX5_ownerOf_12 : decode cX5_ownerOf 12 = .ok (.aload_n 0, 1) := by decide +kernel
theorem dX5_ownerOf_13 : decode cX5_ownerOf 13 = .ok (.getfield 53, 3) := by decide +kernel
theorem dX5_ownerOf_16 : decode cX5_ownerOf 16 = .ok (.if_icmp .ge 56, 3) := by decide +kernel
theorem dX5_ownerOf_19 : decode cX5_ownerOf 19 = .ok (.aload_n 0, 1) := by decide +kernel
theorem dX5_ownerOf_20 : decode cX5_ownerOf 20 = .ok (.iload 6, 2) := by decide +kernel
theorem dX5_ownerOf_22 : decode cX5_ownerOf 22 = .ok (.iload_n 2, 1) := by decide +kernel
theorem dX5_ownerOf_23 : decode cX5_ownerOf 23 = .ok (.iload_n 3, 1) := by decide +kernel
theorem dX5_ownerOf_24 : decode cX5_ownerOf 24 = .ok (.invokevirtual 96, 3) := by decide +kernel
theorem dX5_ownerOf_27 : decode cX5_ownerOf 27 = .ok (.aload_n 0, 1) := by decide +kernel
theorem dX5_ownerOf_28 : decode cX5_ownerOf 28 = .ok (.getfield 22, 3) := by decide +kernel
theorem dX5_ownerOf_31 : decode cX5_ownerOf 31 = .ok (.iload 6, 2) := by decide +kernel
theorem dX5_ownerOf_33 : decode cX5_ownerOf 33 = .ok (.iaload, 1) := by decide +kernel
theorem dX5_ownerOf_34 : decode cX5_ownerOf 34 = .ok (.isub, 1) := by decide +kernel
theorem dX5_ownerOf_35 : decode cX5_ownerOf 35 = .ok (.istore 7, 2) := by decide +kernel
theorem dX5_ownerOf_37 : decode cX5_ownerOf 37 = .ok (.iload_n 1, 1) := by decide +kernel
theorem dX5_ownerOf_38 : decode cX5_ownerOf 38 = .ok (.iload 6, 2) := by decide +kernel
theorem dX5_ownerOf_40 : decode cX5_ownerOf 40 = .ok (.invokestatic 100, 3) := by decide +kernel
theorem dX5_ownerOf_43 : decode cX5_ownerOf 43 = .ok (.ifCond .eq 23, 3) := by decide +kernel
theorem dX5_ownerOf_46 : decode cX5_ownerOf 46 = .ok (.iload 4, 2) := by decide +kernel
theorem dX5_ownerOf_48 : decode cX5_ownerOf 48 = .ok (.ifCond .lt 10, 3) := by decide +kernel
theorem dX5_ownerOf_51 : decode cX5_ownerOf 51 = .ok (.iload 7, 2) := by decide +kernel
theorem dX5_ownerOf_53 : decode cX5_ownerOf 53 = .ok (.iload 5, 2) := by decide +kernel
theorem dX5_ownerOf_55 : decode cX5_ownerOf 55 = .ok (.if_icmp .ge 11, 3) := by decide +kernel
theorem dX5_ownerOf_58 : decode cX5_ownerOf 58 = .ok (.iload 6, 2) := by decide +kernel
theorem dX5_ownerOf_60 : decode cX5_ownerOf 60 = .ok (.istore 4, 2) := by decide +kernel
theorem dX5_ownerOf_62 : decode cX5_ownerOf 62 = .ok (.iload 7, 2) := by decide +kernel
theorem dX5_ownerOf_64 : decode cX5_ownerOf 64 = .ok (.istore 5, 2) := by decide +kernel
theorem dX5_ownerOf_66 : decode cX5_ownerOf 66 = .ok (.iinc 6 1, 3) := by decide +kernel
theorem dX5_ownerOf_69 : decode cX5_ownerOf 69 = .ok (.goto (-59), 3) := by decide +kernel
theorem dX5_ownerOf_72 : decode cX5_ownerOf 72 = .ok (.iload 4, 2) := by decide +kernel
theorem dX5_ownerOf_74 : decode cX5_ownerOf 74 = .ok (.ireturn, 1) := by decide +kernel
theorem dX5_lookUp_0 : decode cX5_lookUp 0 = .ok (.bipush (-6), 2) := by decide +kernel
theorem dX5_lookUp_2 : decode cX5_lookUp 2 = .ok (.istore_n 2, 1) := by decide +kernel
theorem dX5_lookUp_3 : decode cX5_lookUp 3 = .ok (.iconst 0, 1) := by decide +kernel
theorem dX5_lookUp_4 : decode cX5_lookUp 4 = .ok (.istore_n 3, 1) := by decide +kernel
theorem dX5_lookUp_5 : decode cX5_lookUp 5 = .ok (.iload_n 3, 1) := by decide +kernel
theorem dX5_lookUp_6 : decode cX5_lookUp 6 = .ok (.aload_n 0, 1) := by decide +kernel
theorem dX5_lookUp_7 : decode cX5_lookUp 7 = .ok (.getfield 61, 3) := by decide +kernel
theorem dX5_lookUp_10 : decode cX5_lookUp 10 = .ok (.if_icmp .ge 25, 3) := by decide +kernel
theorem dX5_lookUp_13 : decode cX5_lookUp 13 = .ok (.aload_n 0, 1) := by decide +kernel
theorem dX5_lookUp_14 : decode cX5_lookUp 14 = .ok (.getfield 32, 3) := by decide +kernel
theorem dX5_lookUp_17 : decode cX5_lookUp 17 = .ok (.iload_n 3, 1) := by decide +kernel
theorem dX5_lookUp_18 : decode cX5_lookUp 18 = .ok (.iaload, 1) := by decide +kernel
theorem dX5_lookUp_19 : decode cX5_lookUp 19 = .ok (.iload_n 1, 1) := by decide +kernel
theorem dX5_lookUp_20 : decode cX5_lookUp 20 = .ok (.if_icmp .ne 7, 3) := by decide +kernel
theorem dX5_lookUp_23 : decode cX5_lookUp 23 = .ok (.iload_n 3, 1) := by decide +kernel
theorem dX5_lookUp_24 : decode cX5_lookUp 24 = .ok (.goto 4, 3) := by decide +kernel
theorem dX5_lookUp_27 : decode cX5_lookUp 27 = .ok (.iload_n 2, 1) := by decide +kernel
theorem dX5_lookUp_28 : decode cX5_lookUp 28 = .ok (.istore_n 2, 1) := by decide +kernel
theorem dX5_lookUp_29 : decode cX5_lookUp 29 = .ok (.iinc 3 1, 3) := by decide +kernel
theorem dX5_lookUp_32 : decode cX5_lookUp 32 = .ok (.goto (-27), 3) := by decide +kernel
theorem dX5_lookUp_35 : decode cX5_lookUp 35 = .ok (.iload_n 1, 1) := by decide +kernel
theorem dX5_lookUp_36 : decode cX5_lookUp 36 = .ok (.ifCond .ne 4, 3) := by decide +kernel
theorem dX5_lookUp_39 : decode cX5_lookUp 39 = .ok (.return_, 1) := by decide +kernel
theorem dX5_lookUp_40 : decode cX5_lookUp 40 = .ok (.iload_n 2, 1) := by decide +kernel
theorem dX5_lookUp_41 : decode cX5_lookUp 41 = .ok (.ifCond .lt 16, 3) := by decide +kernel
theorem dX5_lookUp_44 : decode cX5_lookUp 44 = .ok (.aload_n 0, 1) := by decide +kernel
theorem dX5_lookUp_45 : decode cX5_lookUp 45 = .ok (.dup, 1) := by decide +kernel
theorem dX5_lookUp_46 : decode cX5_lookUp 46 = .ok (.getfield 103, 3) := by decide +kernel
theorem dX5_lookUp_49 : decode cX5_lookUp 49 = .ok (.iconst 1, 1) := by decide +kernel
theorem dX5_lookUp_50 : decode cX5_lookUp 50 = .ok (.iadd, 1) := by decide +kernel
theorem dX5_lookUp_51 : decode cX5_lookUp 51 = .ok (.putfield 103, 3) := by decide +kernel
theorem dX5_lookUp_54 : decode cX5_lookUp 54 = .ok (.goto 36, 3) := by decide +kernel
theorem dX5_lookUp_57 : decode cX5_lookUp 57 = .ok (.aload_n 0, 1) := by decide +kernel
theorem dX5_lookUp_58 : decode cX5_lookUp 58 = .ok (.dup, 1) := by decide +kernel
theorem dX5_lookUp_59 : decode cX5_lookUp 59 = .ok (.getfield 106, 3) := by decide +kernel
theorem dX5_lookUp_62 : decode cX5_lookUp 62 = .ok (.iconst 1, 1) := by decide +kernel
theorem dX5_lookUp_63 : decode cX5_lookUp 63 = .ok (.iadd, 1) := by decide +kernel
theorem dX5_lookUp_64 : decode cX5_lookUp 64 = .ok (.putfield 106, 3) := by decide +kernel
theorem dX5_lookUp_67 : decode cX5_lookUp 67 = .ok (.aload_n 0, 1) := by decide +kernel
theorem dX5_lookUp_68 : decode cX5_lookUp 68 = .ok (.dup, 1) := by decide +kernel
theorem dX5_lookUp_69 : decode cX5_lookUp 69 = .ok (.getfield 109, 3) := by decide +kernel
theorem dX5_lookUp_72 : decode cX5_lookUp 72 = .ok (.aload_n 0, 1) := by decide +kernel
theorem dX5_lookUp_73 : decode cX5_lookUp 73 = .ok (.getfield 61, 3) := by decide +kernel
theorem dX5_lookUp_76 : decode cX5_lookUp 76 = .ok (.bipush 6, 2) := by decide +kernel
theorem dX5_lookUp_78 : decode cX5_lookUp 78 = .ok (.if_icmp .ne 7, 3) := by decide +kernel
theorem dX5_lookUp_81 : decode cX5_lookUp 81 = .ok (.iconst 1, 1) := by decide +kernel
theorem dX5_lookUp_82 : decode cX5_lookUp 82 = .ok (.goto 4, 3) := by decide +kernel
theorem dX5_lookUp_85 : decode cX5_lookUp 85 = .ok (.iconst 0, 1) := by decide +kernel
theorem dX5_lookUp_86 : decode cX5_lookUp 86 = .ok (.iadd, 1) := by decide +kernel
theorem dX5_lookUp_87 : decode cX5_lookUp 87 = .ok (.putfield 109, 3) := by decide +kernel
theorem dX5_lookUp_90 : decode cX5_lookUp 90 = .ok (.iload_n 2, 1) := by decide +kernel
theorem dX5_lookUp_91 : decode cX5_lookUp 91 = .ok (.ifCond .lt 7, 3) := by decide +kernel
theorem dX5_lookUp_94 : decode cX5_lookUp 94 = .ok (.iload_n 2, 1) := by decide +kernel
theorem dX5_lookUp_95 : decode cX5_lookUp 95 = .ok (.goto 20, 3) := by decide +kernel
theorem dX5_lookUp_98 : decode cX5_lookUp 98 = .ok (.aload_n 0, 1) := by decide +kernel
theorem dX5_lookUp_99 : decode cX5_lookUp 99 = .ok (.getfield 61, 3) := by decide +kernel
theorem dX5_lookUp_102 : decode cX5_lookUp 102 = .ok (.bipush 6, 2) := by decide +kernel
theorem dX5_lookUp_104 : decode cX5_lookUp 104 = .ok (.if_icmp .ne 7, 3) := by decide +kernel
theorem dX5_lookUp_107 : decode cX5_lookUp 107 = .ok (.iconst 0, 1) := by decide +kernel
theorem dX5_lookUp_108 : decode cX5_lookUp 108 = .ok (.goto 7, 3) := by decide +kernel
theorem dX5_lookUp_111 : decode cX5_lookUp 111 = .ok (.aload_n 0, 1) := by decide +kernel
theorem dX5_lookUp_112 : decode cX5_lookUp 112 = .ok (.getfield 61, 3) := by decide +kernel
theorem dX5_lookUp_115 : decode cX5_lookUp 115 = .ok (.istore_n 3, 1) := by decide +kernel
theorem dX5_lookUp_116 : decode cX5_lookUp 116 = .ok (.aload_n 0, 1) := by decide +kernel
theorem dX5_lookUp_117 : decode cX5_lookUp 117 = .ok (.iload_n 2, 1) := by decide +kernel
theorem dX5_lookUp_118 : decode cX5_lookUp 118 = .ok (.ifCond .ge 12, 3) := by decide +kernel
theorem dX5_lookUp_121 : decode cX5_lookUp 121 = .ok (.aload_n 0, 1) := by decide +kernel
theorem dX5_lookUp_122 : decode cX5_lookUp 122 = .ok (.getfield 61, 3) := by decide +kernel
theorem dX5_lookUp_125 : decode cX5_lookUp 125 = .ok (.bipush 6, 2) := by decide +kernel
theorem dX5_lookUp_127 : decode cX5_lookUp 127 = .ok (.if_icmp .ne 10, 3) := by decide +kernel
theorem dX5_lookUp_130 : decode cX5_lookUp 130 = .ok (.aload_n 0, 1) := by decide +kernel
theorem dX5_lookUp_131 : decode cX5_lookUp 131 = .ok (.getfield 61, 3) := by decide +kernel
theorem dX5_lookUp_134 : decode cX5_lookUp 134 = .ok (.goto 9, 3) := by decide +kernel
theorem dX5_lookUp_137 : decode cX5_lookUp 137 = .ok (.aload_n 0, 1) := by decide +kernel
theorem dX5_lookUp_138 : decode cX5_lookUp 138 = .ok (.getfield 61, 3) := by decide +kernel
theorem dX5_lookUp_141 : decode cX5_lookUp 141 = .ok (.iconst 1, 1) := by decide +kernel
theorem dX5_lookUp_142 : decode cX5_lookUp 142 = .ok (.iadd, 1) := by decide +kernel
theorem dX5_lookUp_143 : decode cX5_lookUp 143 = .ok (.putfield 61, 3) := by decide +kernel
theorem dX5_lookUp_146 : decode cX5_lookUp 146 = .ok (.iload_n 3, 1) := by decide +kernel
theorem dX5_lookUp_147 : decode cX5_lookUp 147 = .ok (.istore 4, 2) := by decide +kernel
theorem dX5_lookUp_149 : decode cX5_lookUp 149 = .ok (.iload 4, 2) := by decide +kernel
theorem dX5_lookUp_151 : decode cX5_lookUp 151 = .ok (.aload_n 0, 1) := by decide +kernel
theorem dX5_lookUp_152 : decode cX5_lookUp 152 = .ok (.getfield 61, 3) := by decide +kernel
theorem dX5_lookUp_155 : decode cX5_lookUp 155 = .ok (.iconst 1, 1) := by decide +kernel
theorem dX5_lookUp_156 : decode cX5_lookUp 156 = .ok (.isub, 1) := by decide +kernel
theorem dX5_lookUp_157 : decode cX5_lookUp 157 = .ok (.if_icmp .ge 25, 3) := by decide +kernel
theorem dX5_lookUp_160 : decode cX5_lookUp 160 = .ok (.aload_n 0, 1) := by decide +kernel
theorem dX5_lookUp_161 : decode cX5_lookUp 161 = .ok (.getfield 32, 3) := by decide +kernel
theorem dX5_lookUp_164 : decode cX5_lookUp 164 = .ok (.iload 4, 2) := by decide +kernel
theorem dX5_lookUp_166 : decode cX5_lookUp 166 = .ok (.aload_n 0, 1) := by decide +kernel
theorem dX5_lookUp_167 : decode cX5_lookUp 167 = .ok (.getfield 32, 3) := by decide +kernel
theorem dX5_lookUp_170 : decode cX5_lookUp 170 = .ok (.iload 4, 2) := by decide +kernel
theorem dX5_lookUp_172 : decode cX5_lookUp 172 = .ok (.iconst 1, 1) := by decide +kernel
theorem dX5_lookUp_173 : decode cX5_lookUp 173 = .ok (.iadd, 1) := by decide +kernel
theorem dX5_lookUp_174 : decode cX5_lookUp 174 = .ok (.iaload, 1) := by decide +kernel
theorem dX5_lookUp_175 : decode cX5_lookUp 175 = .ok (.iastore, 1) := by decide +kernel
theorem dX5_lookUp_176 : decode cX5_lookUp 176 = .ok (.iinc 4 1, 3) := by decide +kernel
theorem dX5_lookUp_179 : decode cX5_lookUp 179 = .ok (.goto (-30), 3) := by decide +kernel
theorem dX5_lookUp_182 : decode cX5_lookUp 182 = .ok (.aload_n 0, 1) := by decide +kernel
theorem dX5_lookUp_183 : decode cX5_lookUp 183 = .ok (.getfield 32, 3) := by decide +kernel
theorem dX5_lookUp_186 : decode cX5_lookUp 186 = .ok (.aload_n 0, 1) := by decide +kernel
theorem dX5_lookUp_187 : decode cX5_lookUp 187 = .ok (.getfield 61, 3) := by decide +kernel
theorem dX5_lookUp_190 : decode cX5_lookUp 190 = .ok (.iconst 1, 1) := by decide +kernel
theorem dX5_lookUp_191 : decode cX5_lookUp 191 = .ok (.isub, 1) := by decide +kernel
theorem dX5_lookUp_192 : decode cX5_lookUp 192 = .ok (.iload_n 1, 1) := by decide +kernel
theorem dX5_lookUp_193 : decode cX5_lookUp 193 = .ok (.iastore, 1) := by decide +kernel
theorem dX5_lookUp_194 : decode cX5_lookUp 194 = .ok (.return_, 1) := by decide +kernel
set_option maxRecDepth 20000 in
theorem ggX5_owner_X5_isDay : GoodIn wsX5_owner wsX5_isDay := goodIn_r _ [4, 5, 6, 3, 7] (by decide +kernel) (by decide +kernel)
set_option maxRecDepth 20000 in
theorem gX5_owner_X5_isDay : GoodIn wsX5_owner (va_wsS RX5 84 yX5_isDay wsX5_isDay) := goodIn_app (goodIn_of _ (by decide +kernel)) ggX5_owner_X5_isDay
set_option maxRecDepth 20000 in
theorem ggX5_owner_X5_in : GoodIn wsX5_owner wsX5_in := goodIn_r _ [7] (by decide +kernel) (by decide +kernel)
set_option maxRecDepth 20000 in
theorem gX5_owner_X5_in : GoodIn wsX5_owner (va_wsS RX5 57 yX5_in wsX5_in) := goodIn_app (goodIn_of _ (by decide +kernel)) ggX5_owner_X5_in
set_option maxRecDepth 20000 in
theorem ggX5_owner_X5_isPlot : GoodIn wsX5_owner wsX5_isPlot := goodIn_r _ [11, 12, 13, 5, 6, 3, 7, 47, 48, 49, 50, 51, 52, 53, 54, 55, 56, 57, 58, 59, 60, 61, 62, 63, 64, 65] (by decide +kernel) (by decide +kernel)
set_option maxRecDepth 20000 in
theorem gX5_owner_X5_isPlot : GoodIn wsX5_owner (wsV RX5 112 RX5 yX5_isPlot wsX5_isPlot) := goodIn_app (goodIn_of _ (by decide +kernel)) ggX5_owner_X5_isPlot
set_option maxRecDepth 20000 in
theorem ggX5_owner_X5_workingOn : GoodIn wsX5_owner wsX5_workingOn := goodIn_r _ [17, 18, 19, 20, 47, 48, 49, 50, 51, 52, 53, 54, 55, 56, 57, 58, 59, 60, 61, 62, 63, 64, 65] (by decide +kernel) (by decide +kernel)
set_option maxRecDepth 20000 in
theorem gX5_owner_X5_workingOn : GoodIn wsX5_owner (wsV RX5 93 RX5 yX5_workingOn wsX5_workingOn) := goodIn_app (goodIn_of _ (by decide +kernel)) ggX5_owner_X5_workingOn
set_option maxRecDepth 20000 in
theorem ggX5_owner_X5_lookUp : GoodIn wsX5_owner wsX5_lookUp := goodIn_r _ [24, 25, 26, 27, 28, 29, 47, 48, 49, 50, 51, 52, 53, 54, 55, 56, 57, 58, 59, 60, 61, 62, 63, 64, 65] (by decide +kernel) (by decide +kernel)
set_option maxRecDepth 20000 in
theorem gX5_owner_X5_lookUp : GoodIn wsX5_owner (wsV RX5 115 RX5 yX5_lookUp wsX5_lookUp) := goodIn_app (goodIn_of _ (by decide +kernel)) ggX5_owner_X5_lookUp
set_option maxRecDepth 20000 in
theorem ggX5_owner_X5_ownerOf : GoodIn wsX5_owner wsX5_ownerOf := goodIn_r _ [33, 18, 34, 35, 36, 37, 3, 38, 39, 40, 41, 42, 43, 44, 45, 46, 47, 48, 49, 50, 51, 52, 53, 54, 55, 56, 57, 58, 59, 60, 61, 62, 63, 64, 65] (by decide +kernel) (by decide +kernel)
set_option maxRecDepth 20000 in
theorem gX5_owner_X5_ownerOf : GoodIn wsX5_owner (wsV RX5 119 RX5 yX5_ownerOf wsX5_ownerOf) := goodIn_app (goodIn_of _ (by decide +kernel)) ggX5_owner_X5_ownerOf
theorem dX5_owner_0 : decode cX5_owner 0 = .ok (.iload_n 1, 1) := by decide +kernel
theorem dX5_owner_1 : decode cX5_owner 1 = .ok (.invokestatic 84, 3) := by decide +kernel
theorem dX5_owner_4 : decode cX5_owner 4 = .ok (.ifCond .eq 23, 3) := by decide +kernel
theorem dX5_owner_7 : decode cX5_owner 7 = .ok (.iload_n 2, 1) := by decide +kernel
theorem dX5_owner_8 : decode cX5_owner 8 = .ok (.iconst 0, 1) := by decide +kernel
theorem dX5_owner_9 : decode cX5_owner 9 = .ok (.bipush 15, 2) := by decide +kernel
theorem dX5_owner_11 : decode cX5_owner 11 = .ok (.invokestatic 57, 3) := by decide +kernel
theorem dX5_owner_14 : decode cX5_owner 14 = .ok (.ifCond .eq 13, 3) := by decide +kernel
theorem dX5_owner_17 : decode cX5_owner 17 = .ok (.iload_n 3, 1) := by decide +kernel
theorem dX5_owner_18 : decode cX5_owner 18 = .ok (.iconst 0, 1) := by decide +kernel
theorem dX5_owner_19 : decode cX5_owner 19 = .ok (.bipush 15, 2) := by decide +kernel
theorem dX5_owner_21 : decode cX5_owner 21 = .ok (.invokestatic 57, 3) := by decide +kernel
theorem dX5_owner_24 : decode cX5_owner 24 = .ok (.ifCond .ne 6, 3) := by decide +kernel
theorem dX5_owner_27 : decode cX5_owner 27 = .ok (.bipush (-2), 2) := by decide +kernel
theorem dX5_owner_29 : decode cX5_owner 29 = .ok (.ireturn, 1) := by decide +kernel
theorem dX5_owner_30 : decode cX5_owner 30 = .ok (.aload_n 0, 1) := by decide +kernel
theorem dX5_owner_31 : decode cX5_owner 31 = .ok (.iload_n 2, 1) := by decide +kernel
theorem dX5_owner_32 : decode cX5_owner 32 = .ok (.iload_n 3, 1) := by decide +kernel
theorem dX5_owner_33 : decode cX5_owner 33 = .ok (.invokevirtual 112, 3) := by decide +kernel
theorem dX5_owner_36 : decode cX5_owner 36 = .ok (.ifCond .ne 6, 3) := by decide +kernel
theorem dX5_owner_39 : decode cX5_owner 39 = .ok (.bipush (-5), 2) := by decide +kernel
theorem dX5_owner_41 : decode cX5_owner 41 = .ok (.ireturn, 1) := by decide +kernel
theorem dX5_owner_42 : decode cX5_owner 42 = .ok (.aload_n 0, 1) := by decide +kernel
theorem dX5_owner_43 : decode cX5_owner 43 = .ok (.iload_n 1, 1) := by decide +kernel
theorem dX5_owner_44 : decode cX5_owner 44 = .ok (.invokevirtual 93, 3) := by decide +kernel
theorem dX5_owner_47 : decode cX5_owner 47 = .ok (.istore 4, 2) := by decide +kernel
theorem dX5_owner_49 : decode cX5_owner 49 = .ok (.aload_n 0, 1) := by decide +kernel
theorem dX5_owner_50 : decode cX5_owner 50 = .ok (.iload 4, 2) := by decide +kernel
theorem dX5_owner_52 : decode cX5_owner 52 = .ok (.invokevirtual 115, 3) := by decide +kernel
theorem dX5_owner_55 : decode cX5_owner 55 = .ok (.aload_n 0, 1) := by decide +kernel
theorem dX5_owner_56 : decode cX5_owner 56 = .ok (.iload 4, 2) := by decide +kernel
theorem dX5_owner_58 : decode cX5_owner 58 = .ok (.iload_n 2, 1) := by decide +kernel
theorem dX5_owner_59 : decode cX5_owner 59 = .ok (.iload_n 3, 1) := by decide +kernel
theorem dX5_owner_60 : decode cX5_owner 60 = .ok (.invokevirtual 119, 3) := by decide +kernel
theorem dX5_owner_63 : decode cX5_owner 63 = .ok (.ireturn, 1) := by decide +kernel
set_option maxRecDepth 20000 in
theorem ggX5_size_X5_isPlot : GoodIn wsX5_size wsX5_isPlot := goodIn_r _ [5, 6, 7, 8, 9, 4, 10, 29, 30, 31, 32, 33, 34, 35, 36, 37, 38, 39, 40, 41, 42, 43, 44, 45, 46, 47] (by decide +kernel) (by decide +kernel)
set_option maxRecDepth 20000 in
theorem gX5_size_X5_isPlot : GoodIn wsX5_size (wsV RX5 112 RX5 yX5_isPlot wsX5_isPlot) := goodIn_app (goodIn_of _ (by decide +kernel)) ggX5_size_X5_isPlot
set_option maxRecDepth 20000 in
theorem ggX5_size_X5_ownerOf : GoodIn wsX5_size wsX5_ownerOf := goodIn_r _ [14, 15, 16, 17, 18, 19, 4, 20, 21, 22, 23, 24, 25, 26, 27, 28, 29, 30, 31, 32, 33, 34, 35, 36, 37, 38, 39, 40, 41, 42, 43, 44, 45, 46, 47] (by decide +kernel) (by decide +kernel)
set_option maxRecDepth 20000 in
theorem gX5_size_X5_ownerOf : GoodIn wsX5_size (wsV RX5 119 RX5 yX5_ownerOf wsX5_ownerOf) := goodIn_app (goodIn_of _ (by decide +kernel)) ggX5_size_X5_ownerOf
theorem dX5_size_0 : decode cX5_size 0 = .ok (.iconst 0, 1) := by decide +kernel
theorem dX5_size_1 : decode cX5_size 1 = .ok (.istore_n 3, 1) := by decide +kernel
theorem dX5_size_2 : decode cX5_size 2 = .ok (.iconst 0, 1) := by decide +kernel
theorem dX5_size_3 : decode cX5_size 3 = .ok (.istore 4, 2) := by decide +kernel
theorem dX5_size_5 : decode cX5_size 5 = .ok (.iload 4, 2) := by decide +kernel
theorem dX5_size_7 : decode cX5_size 7 = .ok (.sipush 256, 3) := by decide +kernel
theorem dX5_size_10 : decode cX5_size 10 = .ok (.if_icmp .ge 53, 3) := by decide +kernel
theorem dX5_size_13 : decode cX5_size 13 = .ok (.iload_n 3, 1) := by decide +kernel
theorem dX5_size_14 : decode cX5_size 14 = .ok (.aload_n 0, 1) := by decide +kernel
theorem dX5_size_15 : decode cX5_size 15 = .ok (.iload 4, 2) := by decide +kernel
theorem dX5_size_17 : decode cX5_size 17 = .ok (.bipush 16, 2) := by decide +kernel
theorem dX5_size_19 : decode cX5_size 19 = .ok (.irem, 1) := by decide +kernel
theorem dX5_size_20 : decode cX5_size 20 = .ok (.iload 4, 2) := by decide +kernel
theorem dX5_size_22 : decode cX5_size 22 = .ok (.bipush 16, 2) := by decide +kernel
theorem dX5_size_24 : decode cX5_size 24 = .ok (.idiv, 1) := by decide +kernel
theorem dX5_size_25 : decode cX5_size 25 = .ok (.invokevirtual 112, 3) := by decide +kernel
theorem dX5_size_28 : decode cX5_size 28 = .ok (.ifCond .eq 26, 3) := by decide +kernel
theorem dX5_size_31 : decode cX5_size 31 = .ok (.aload_n 0, 1) := by decide +kernel
theorem dX5_size_32 : decode cX5_size 32 = .ok (.iload_n 1, 1) := by decide +kernel
theorem dX5_size_33 : decode cX5_size 33 = .ok (.iload 4, 2) := by decide +kernel
theorem dX5_size_35 : decode cX5_size 35 = .ok (.bipush 16, 2) := by decide +kernel
theorem dX5_size_37 : decode cX5_size 37 = .ok (.irem, 1) := by decide +kernel
theorem dX5_size_38 : decode cX5_size 38 = .ok (.iload 4, 2) := by decide +kernel
theorem dX5_size_40 : decode cX5_size 40 = .ok (.bipush 16, 2) := by decide +kernel
theorem dX5_size_42 : decode cX5_size 42 = .ok (.idiv, 1) := by decide +kernel
theorem dX5_size_43 : decode cX5_size 43 = .ok (.invokevirtual 119, 3) := by decide +kernel
theorem dX5_size_46 : decode cX5_size 46 = .ok (.iload_n 2, 1) := by decide +kernel
theorem dX5_size_47 : decode cX5_size 47 = .ok (.if_icmp .ne 7, 3) := by decide +kernel
theorem dX5_size_50 : decode cX5_size 50 = .ok (.iconst 1, 1) := by decide +kernel
theorem dX5_size_51 : decode cX5_size 51 = .ok (.goto 4, 3) := by decide +kernel
theorem dX5_size_54 : decode cX5_size 54 = .ok (.iconst 0, 1) := by decide +kernel
theorem dX5_size_55 : decode cX5_size 55 = .ok (.iadd, 1) := by decide +kernel
theorem dX5_size_56 : decode cX5_size 56 = .ok (.istore_n 3, 1) := by decide +kernel
theorem dX5_size_57 : decode cX5_size 57 = .ok (.iinc 4 1, 3) := by decide +kernel
theorem dX5_size_60 : decode cX5_size 60 = .ok (.goto (-55), 3) := by decide +kernel
theorem dX5_size_63 : decode cX5_size 63 = .ok (.iload_n 3, 1) := by decide +kernel
theorem dX5_size_64 : decode cX5_size 64 = .ok (.ireturn, 1) := by decide +kernel
theorem dX5_common_0 : decode cX5_common 0 = .ok (.iload_n 0, 1) := by decide +kernel
theorem dX5_common_1 : decode cX5_common 1 = .ok (.istore_n 2, 1) := by decide +kernel
theorem dX5_common_2 : decode cX5_common 2 = .ok (.iload_n 1, 1) := by decide +kernel
theorem dX5_common_3 : decode cX5_common 3 = .ok (.istore_n 3, 1) := by decide +kernel
theorem dX5_common_4 : decode cX5_common 4 = .ok (.iconst 0, 1) := by decide +kernel
theorem dX5_common_5 : decode cX5_common 5 = .ok (.istore 4, 2) := by decide +kernel
theorem dX5_common_7 : decode cX5_common 7 = .ok (.iload 4, 2) := by decide +kernel
theorem dX5_common_9 : decode cX5_common 9 = .ok (.bipush 100, 2) := by decide +kernel
theorem dX5_common_11 : decode cX5_common 11 = .ok (.if_icmp .ge 23, 3) := by decide +kernel
theorem dX5_common_14 : decode cX5_common 14 = .ok (.iload_n 3, 1) := by decide +kernel
theorem dX5_common_15 : decode cX5_common 15 = .ok (.ifCond .eq 19, 3) := by decide +kernel
theorem dX5_common_18 : decode cX5_common 18 = .ok (.iload_n 2, 1) := by decide +kernel
theorem dX5_common_19 : decode cX5_common 19 = .ok (.iload_n 3, 1) := by decide +kernel
theorem dX5_common_20 : decode cX5_common 20 = .ok (.irem, 1) := by decide +kernel
theorem dX5_common_21 : decode cX5_common 21 = .ok (.istore 5, 2) := by decide +kernel
theorem dX5_common_23 : decode cX5_common 23 = .ok (.iload_n 3, 1) := by decide +kernel
theorem dX5_common_24 : decode cX5_common 24 = .ok (.istore_n 2, 1) := by decide +kernel
theorem dX5_common_25 : decode cX5_common 25 = .ok (.iload 5, 2) := by decide +kernel
theorem dX5_common_27 : decode cX5_common 27 = .ok (.istore_n 3, 1) := by decide +kernel
theorem dX5_common_28 : decode cX5_common 28 = .ok (.iinc 4 1, 3) := by decide +kernel
theorem dX5_common_31 : decode cX5_common 31 = .ok (.goto (-24), 3) := by decide +kernel
theorem dX5_common_34 : decode cX5_common 34 = .ok (.iload_n 2, 1) := by decide +kernel
theorem dX5_common_35 : decode cX5_common 35 = .ok (.ireturn, 1) := by decide +kernel
set_option maxRecDepth 20000 in
theorem ggX5_part_X5_common : GoodIn wsX5_part wsX5_common := goodIn_r _ [4] (by decide +kernel) (by decide +kernel)
set_option maxRecDepth 20000 in
theorem gX5_part_X5_common : GoodIn wsX5_part (va_wsS RX5 122 yX5_common wsX5_common) := goodIn_app (goodIn_of _ (by decide +kernel)) ggX5_part_X5_common
theorem dX5_part_0 : decode cX5_part 0 = .ok (.iload_n 0, 1) := by decide +kernel
theorem dX5_part_1 : decode cX5_part 1 = .ok (.iload_n 1, 1) := by decide +kernel
theorem dX5_part_2 : decode cX5_part 2 = .ok (.invokestatic 122, 3) := by decide +kernel
theorem dX5_part_5 : decode cX5_part 5 = .ok (.istore_n 3, 1) := by decide +kernel
theorem dX5_part_6 : decode cX5_part 6 = .ok (.iload_n 2, 1) := by decide +kernel
theorem dX5_part_7 : decode cX5_part 7 = .ok (.ifCond .ne 9, 3) := by decide +kernel
theorem dX5_part_10 : decode cX5_part 10 = .ok (.iload_n 0, 1) := by decide +kernel
theorem dX5_part_11 : decode cX5_part 11 = .ok (.iload_n 3, 1) := by decide +kernel
theorem dX5_part_12 : decode cX5_part 12 = .ok (.idiv, 1) := by decide +kernel
theorem dX5_part_13 : decode cX5_part 13 = .ok (.goto 6, 3) := by decide +kernel
theorem dX5_part_16 : decode cX5_part 16 = .ok (.iload_n 1, 1) := by decide +kernel
theorem dX5_part_17 : decode cX5_part 17 = .ok (.iload_n 3, 1) := by decide +kernel
theorem dX5_part_18 : decode cX5_part 18 = .ok (.idiv, 1) := by decide +kernel
theorem dX5_part_19 : decode cX5_part 19 = .ok (.ireturn, 1) := by decide +kernel
set_option maxRecDepth 20000 in
theorem ggX5_farOf_X5_isPlot : GoodIn wsX5_farOf wsX5_isPlot := goodIn_r _ [5, 6, 7, 8, 9, 4, 10, 29, 30, 31, 32, 33, 34, 35, 36, 37, 38, 39, 40, 41, 42, 43, 44, 45, 46, 47] (by decide +kernel) (by decide +kernel)
set_option maxRecDepth 20000 in
theorem gX5_farOf_X5_isPlot : GoodIn wsX5_farOf (wsV RX5 112 RX5 yX5_isPlot wsX5_isPlot) := goodIn_app (goodIn_of _ (by decide +kernel)) ggX5_farOf_X5_isPlot
set_option maxRecDepth 20000 in
theorem ggX5_farOf_X5_ownerOf : GoodIn wsX5_farOf wsX5_ownerOf := goodIn_r _ [14, 15, 16, 17, 18, 19, 4, 20, 21, 22, 23, 24, 25, 26, 27, 28, 29, 30, 31, 32, 33, 34, 35, 36, 37, 38, 39, 40, 41, 42, 43, 44, 45, 46, 47] (by decide +kernel) (by decide +kernel)
set_option maxRecDepth 20000 in
theorem gX5_farOf_X5_ownerOf : GoodIn wsX5_farOf (wsV RX5 119 RX5 yX5_ownerOf wsX5_ownerOf) := goodIn_app (goodIn_of _ (by decide +kernel)) ggX5_farOf_X5_ownerOf
set_option maxRecDepth 20000 in
theorem ggX5_farOf_X5_far : GoodIn wsX5_farOf wsX5_far := goodIn_r _ [20, 21, 22, 23, 24, 4, 25, 29, 30, 31, 32, 33, 34, 35, 36, 37, 38, 39, 40, 41, 42, 43, 44, 45, 46, 47] (by decide +kernel) (by decide +kernel)
set_option maxRecDepth 20000 in
theorem gX5_farOf_X5_far : GoodIn wsX5_farOf (wsV RX5 96 RX5 yX5_far wsX5_far) := goodIn_app (goodIn_of _ (by decide +kernel)) ggX5_farOf_X5_far
theorem dX5_farOf_0 : decode cX5_farOf 0 = .ok (.iconst 0, 1) := by decide +kernel
theorem dX5_farOf_1 : decode cX5_farOf 1 = .ok (.istore_n 3, 1) := by decide +kernel
theorem dX5_farOf_2 : decode cX5_farOf 2 = .ok (.iconst 0, 1) := by decide +kernel
theorem dX5_farOf_3 : decode cX5_farOf 3 = .ok (.istore 4, 2) := by decide +kernel
theorem dX5_farOf_5 : decode cX5_farOf 5 = .ok (.iload 4, 2) := by decide +kernel
theorem dX5_farOf_7 : decode cX5_farOf 7 = .ok (.sipush 256, 3) := by decide +kernel
theorem dX5_farOf_10 : decode cX5_farOf 10 = .ok (.if_icmp .ge 67, 3) := by decide +kernel
theorem dX5_farOf_13 : decode cX5_farOf 13 = .ok (.iload_n 3, 1) := by decide +kernel
theorem dX5_farOf_14 : decode cX5_farOf 14 = .ok (.aload_n 0, 1) := by decide +kernel
theorem dX5_farOf_15 : decode cX5_farOf 15 = .ok (.iload 4, 2) := by decide +kernel
theorem dX5_farOf_17 : decode cX5_farOf 17 = .ok (.bipush 16, 2) := by decide +kernel
theorem dX5_farOf_19 : decode cX5_farOf 19 = .ok (.irem, 1) := by decide +kernel
theorem dX5_farOf_20 : decode cX5_farOf 20 = .ok (.iload 4, 2) := by decide +kernel
theorem dX5_farOf_22 : decode cX5_farOf 22 = .ok (.bipush 16, 2) := by decide +kernel
theorem dX5_farOf_24 : decode cX5_farOf 24 = .ok (.idiv, 1) := by decide +kernel
theorem dX5_farOf_25 : decode cX5_farOf 25 = .ok (.invokevirtual 112, 3) := by decide +kernel
theorem dX5_farOf_28 : decode cX5_farOf 28 = .ok (.ifCond .eq 40, 3) := by decide +kernel
theorem dX5_farOf_31 : decode cX5_farOf 31 = .ok (.aload_n 0, 1) := by decide +kernel
theorem dX5_farOf_32 : decode cX5_farOf 32 = .ok (.iload_n 1, 1) := by decide +kernel
theorem dX5_farOf_33 : decode cX5_farOf 33 = .ok (.iload 4, 2) := by decide +kernel
theorem dX5_farOf_35 : decode cX5_farOf 35 = .ok (.bipush 16, 2) := by decide +kernel
theorem dX5_farOf_37 : decode cX5_farOf 37 = .ok (.irem, 1) := by decide +kernel
theorem dX5_farOf_38 : decode cX5_farOf 38 = .ok (.iload 4, 2) := by decide +kernel
theorem dX5_farOf_40 : decode cX5_farOf 40 = .ok (.bipush 16, 2) := by decide +kernel
theorem dX5_farOf_42 : decode cX5_farOf 42 = .ok (.idiv, 1) := by decide +kernel
theorem dX5_farOf_43 : decode cX5_farOf 43 = .ok (.invokevirtual 119, 3) := by decide +kernel
theorem dX5_farOf_46 : decode cX5_farOf 46 = .ok (.iload_n 2, 1) := by decide +kernel
theorem dX5_farOf_47 : decode cX5_farOf 47 = .ok (.if_icmp .ne 21, 3) := by decide +kernel
theorem dX5_farOf_50 : decode cX5_farOf 50 = .ok (.aload_n 0, 1) := by decide +kernel
theorem dX5_farOf_51 : decode cX5_farOf 51 = .ok (.iload_n 2, 1) := by decide +kernel
theorem dX5_farOf_52 : decode cX5_farOf 52 = .ok (.iload 4, 2) := by decide +kernel
theorem dX5_farOf_54 : decode cX5_farOf 54 = .ok (.bipush 16, 2) := by decide +kernel
theorem dX5_farOf_56 : decode cX5_farOf 56 = .ok (.irem, 1) := by decide +kernel
theorem dX5_farOf_57 : decode cX5_farOf 57 = .ok (.iload 4, 2) := by decide +kernel
theorem dX5_farOf_59 : decode cX5_farOf 59 = .ok (.bipush 16, 2) := by decide +kernel
theorem dX5_farOf_61 : decode cX5_farOf 61 = .ok (.idiv, 1) := by decide +kernel
theorem dX5_farOf_62 : decode cX5_farOf 62 = .ok (.invokevirtual 96, 3) := by decide +kernel
theorem dX5_farOf_65 : decode cX5_farOf 65 = .ok (.goto 4, 3) := by decide +kernel
theorem dX5_farOf_68 : decode cX5_farOf 68 = .ok (.iconst 0, 1) := by decide +kernel
theorem dX5_farOf_69 : decode cX5_farOf 69 = .ok (.iadd, 1) := by decide +kernel
theorem dX5_farOf_70 : decode cX5_farOf 70 = .ok (.istore_n 3, 1) := by decide +kernel
theorem dX5_farOf_71 : decode cX5_farOf 71 = .ok (.iinc 4 1, 3) := by decide +kernel
theorem dX5_farOf_74 : decode cX5_farOf 74 = .ok (.goto (-69), 3) := by decide +kernel
theorem dX5_farOf_77 : decode cX5_farOf 77 = .ok (.iload_n 3, 1) := by decide +kernel
theorem dX5_farOf_78 : decode cX5_farOf 78 = .ok (.ireturn, 1) := by decide +kernel
set_option maxRecDepth 20000 in
theorem ggX5_cell_X5_isGauge : GoodIn wsX5_cell wsX5_isGauge := goodIn_r _ [5, 6, 7, 8, 4, 9, 69, 70, 71, 72, 73, 74, 75, 76, 77, 78, 79, 80, 81, 82, 83, 84, 85, 86, 87] (by decide +kernel) (by decide +kernel)
set_option maxRecDepth 20000 in
theorem gX5_cell_X5_isGauge : GoodIn wsX5_cell (wsV RX5 76 RX5 yX5_isGauge wsX5_isGauge) := goodIn_app (goodIn_of _ (by decide +kernel)) ggX5_cell_X5_isGauge
set_option maxRecDepth 20000 in
theorem ggX5_cell_X5_isDay : GoodIn wsX5_cell wsX5_isDay := goodIn_r _ [12, 7, 8, 4, 9] (by decide +kernel) (by decide +kernel)
set_option maxRecDepth 20000 in
theorem gX5_cell_X5_isDay : GoodIn wsX5_cell (va_wsS RX5 84 yX5_isDay wsX5_isDay) := goodIn_app (goodIn_of _ (by decide +kernel)) ggX5_cell_X5_isDay
set_option maxRecDepth 20000 in
theorem ggX5_cell_X5_in : GoodIn wsX5_cell wsX5_in := goodIn_r _ [9] (by decide +kernel) (by decide +kernel)
set_option maxRecDepth 20000 in
theorem gX5_cell_X5_in : GoodIn wsX5_cell (va_wsS RX5 57 yX5_in wsX5_in) := goodIn_app (goodIn_of _ (by decide +kernel)) ggX5_cell_X5_in
set_option maxRecDepth 20000 in
theorem ggX5_cell_X5_workingOn : GoodIn wsX5_cell wsX5_workingOn := goodIn_r _ [16, 6, 17, 18, 69, 70, 71, 72, 73, 74, 75, 76, 77, 78, 79, 80, 81, 82, 83, 84, 85, 86, 87] (by decide +kernel) (by decide +kernel)
set_option maxRecDepth 20000 in
theorem gX5_cell_X5_workingOn : GoodIn wsX5_cell (wsV RX5 93 RX5 yX5_workingOn wsX5_workingOn) := goodIn_app (goodIn_of _ (by decide +kernel)) ggX5_cell_X5_workingOn
set_option maxRecDepth 20000 in
theorem ggX5_cell_X5_lookUp : GoodIn wsX5_cell wsX5_lookUp := goodIn_r _ [22, 23, 24, 25, 26, 27, 69, 70, 71, 72, 73, 74, 75, 76, 77, 78, 79, 80, 81, 82, 83, 84, 85, 86, 87] (by decide +kernel) (by decide +kernel)
set_option maxRecDepth 20000 in
theorem gX5_cell_X5_lookUp : GoodIn wsX5_cell (wsV RX5 115 RX5 yX5_lookUp wsX5_lookUp) := goodIn_app (goodIn_of _ (by decide +kernel)) ggX5_cell_X5_lookUp
set_option maxRecDepth 20000 in
theorem ggX5_cell_X5_size : GoodIn wsX5_cell wsX5_size := goodIn_r _ [31, 32, 33, 34, 4, 35, 36, 37, 7, 8, 9, 38, 39, 40, 41, 6, 42, 43, 44, 45, 46, 47, 48, 49, 50, 51, 52, 53, 54, 69, 70, 71, 72, 73, 74, 75, 76, 77, 78, 79, 80, 81, 82, 83, 84, 85, 86, 87] (by decide +kernel) (by decide +kernel)
set_option maxRecDepth 20000 in
theorem gX5_cell_X5_size : GoodIn wsX5_cell (wsV RX5 125 RX5 yX5_size wsX5_size) := goodIn_app (goodIn_of _ (by decide +kernel)) ggX5_cell_X5_size
set_option maxRecDepth 20000 in
theorem ggX5_cell_X5_farOf : GoodIn wsX5_cell wsX5_farOf := goodIn_r _ [58, 32, 33, 34, 4, 35, 36, 37, 7, 8, 9, 38, 39, 40, 41, 6, 42, 43, 44, 45, 46, 47, 48, 49, 50, 51, 52, 53, 54, 69, 70, 71, 72, 73, 74, 75, 76, 77, 78, 79, 80, 81, 82, 83, 84, 85, 86, 87] (by decide +kernel) (by decide +kernel)
set_option maxRecDepth 20000 in
theorem gX5_cell_X5_farOf : GoodIn wsX5_cell (wsV RX5 128 RX5 yX5_farOf wsX5_farOf) := goodIn_app (goodIn_of _ (by decide +kernel)) ggX5_cell_X5_farOf
set_option maxRecDepth 20000 in
theorem ggX5_cell_X5_plots : GoodIn wsX5_cell wsX5_plots := goodIn_r _ [62, 36, 37, 69, 70, 71, 72, 73, 74, 75, 76, 77, 78, 79, 80, 81, 82, 83, 84, 85, 86, 87] (by decide +kernel) (by decide +kernel)
set_option maxRecDepth 20000 in
theorem gX5_cell_X5_plots : GoodIn wsX5_cell (wsV RX5 64 RX5 yX5_plots wsX5_plots) := goodIn_app (goodIn_of _ (by decide +kernel)) ggX5_cell_X5_plots
set_option maxRecDepth 20000 in
theorem ggX5_cell_X5_part : GoodIn wsX5_cell wsX5_part := goodIn_r _ [65, 66, 67, 4, 68] (by decide +kernel) (by decide +kernel)
set_option maxRecDepth 20000 in
theorem gX5_cell_X5_part : GoodIn wsX5_cell (va_wsS RX5 131 yX5_part wsX5_part) := goodIn_app (goodIn_of _ (by decide +kernel)) ggX5_cell_X5_part
theorem dX5_cell_0 : decode cX5_cell 0 = .ok (.aload_n 0, 1) := by decide +kernel
theorem dX5_cell_1 : decode cX5_cell 1 = .ok (.iload_n 2, 1) := by decide +kernel
theorem dX5_cell_2 : decode cX5_cell 2 = .ok (.invokevirtual 76, 3) := by decide +kernel
theorem dX5_cell_5 : decode cX5_cell 5 = .ok (.ifCond .ne 5, 3) := by decide +kernel
theorem dX5_cell_8 : decode cX5_cell 8 = .ok (.iconst (-1), 1) := by decide +kernel
theorem dX5_cell_9 : decode cX5_cell 9 = .ok (.ireturn, 1) := by decide +kernel
theorem dX5_cell_10 : decode cX5_cell 10 = .ok (.iload_n 1, 1) := by decide +kernel
theorem dX5_cell_11 : decode cX5_cell 11 = .ok (.invokestatic 84, 3) := by decide +kernel
theorem dX5_cell_14 : decode cX5_cell 14 = .ok (.ifCond .eq 12, 3) := by decide +kernel
theorem dX5_cell_17 : decode cX5_cell 17 = .ok (.iload_n 3, 1) := by decide +kernel
theorem dX5_cell_18 : decode cX5_cell 18 = .ok (.iconst 0, 1) := by decide +kernel
theorem dX5_cell_19 : decode cX5_cell 19 = .ok (.iconst 3, 1) := by decide +kernel
theorem dX5_cell_20 : decode cX5_cell 20 = .ok (.invokestatic 57, 3) := by decide +kernel
theorem dX5_cell_23 : decode cX5_cell 23 = .ok (.ifCond .ne 6, 3) := by decide +kernel
theorem dX5_cell_26 : decode cX5_cell 26 = .ok (.bipush (-2), 2) := by decide +kernel
theorem dX5_cell_28 : decode cX5_cell 28 = .ok (.ireturn, 1) := by decide +kernel
theorem dX5_cell_29 : decode cX5_cell 29 = .ok (.aload_n 0, 1) := by decide +kernel
theorem dX5_cell_30 : decode cX5_cell 30 = .ok (.iload_n 1, 1) := by decide +kernel
theorem dX5_cell_31 : decode cX5_cell 31 = .ok (.invokevirtual 93, 3) := by decide +kernel
theorem dX5_cell_34 : decode cX5_cell 34 = .ok (.istore 4, 2) := by decide +kernel
theorem dX5_cell_36 : decode cX5_cell 36 = .ok (.aload_n 0, 1) := by decide +kernel
theorem dX5_cell_37 : decode cX5_cell 37 = .ok (.iload 4, 2) := by decide +kernel
theorem dX5_cell_39 : decode cX5_cell 39 = .ok (.invokevirtual 115, 3) := by decide +kernel
theorem dX5_cell_42 : decode cX5_cell 42 = .ok (.aload_n 0, 1) := by decide +kernel
theorem dX5_cell_43 : decode cX5_cell 43 = .ok (.iload 4, 2) := by decide +kernel
theorem dX5_cell_45 : decode cX5_cell 45 = .ok (.iload_n 2, 1) := by decide +kernel
theorem dX5_cell_46 : decode cX5_cell 46 = .ok (.invokevirtual 125, 3) := by decide +kernel
theorem dX5_cell_49 : decode cX5_cell 49 = .ok (.istore 5, 2) := by decide +kernel
theorem dX5_cell_51 : decode cX5_cell 51 = .ok (.iload_n 3, 1) := by decide +kernel
theorem dX5_cell_52 : decode cX5_cell 52 = .ok (.ifCond .ne 6, 3) := by decide +kernel
theorem dX5_cell_55 : decode cX5_cell 55 = .ok (.iload 5, 2) := by decide +kernel
theorem dX5_cell_57 : decode cX5_cell 57 = .ok (.ireturn, 1) := by decide +kernel
theorem dX5_cell_58 : decode cX5_cell 58 = .ok (.iload_n 3, 1) := by decide +kernel
theorem dX5_cell_59 : decode cX5_cell 59 = .ok (.iconst 3, 1) := by decide +kernel
theorem dX5_cell_60 : decode cX5_cell 60 = .ok (.if_icmp .ne 11, 3) := by decide +kernel
theorem dX5_cell_63 : decode cX5_cell 63 = .ok (.aload_n 0, 1) := by decide +kernel
theorem dX5_cell_64 : decode cX5_cell 64 = .ok (.iload 4, 2) := by decide +kernel
theorem dX5_cell_66 : decode cX5_cell 66 = .ok (.iload_n 2, 1) := by decide +kernel
theorem dX5_cell_67 : decode cX5_cell 67 = .ok (.invokevirtual 128, 3) := by decide +kernel
theorem dX5_cell_70 : decode cX5_cell 70 = .ok (.ireturn, 1) := by decide +kernel
theorem dX5_cell_71 : decode cX5_cell 71 = .ok (.iload 5, 2) := by decide +kernel
theorem dX5_cell_73 : decode cX5_cell 73 = .ok (.ifCond .ne 9, 3) := by decide +kernel
theorem dX5_cell_76 : decode cX5_cell 76 = .ok (.iload_n 3, 1) := by decide +kernel
theorem dX5_cell_77 : decode cX5_cell 77 = .ok (.iconst 1, 1) := by decide +kernel
theorem dX5_cell_78 : decode cX5_cell 78 = .ok (.isub, 1) := by decide +kernel
theorem dX5_cell_79 : decode cX5_cell 79 = .ok (.goto 15, 3) := by decide +kernel
theorem dX5_cell_82 : decode cX5_cell 82 = .ok (.iload 5, 2) := by decide +kernel
theorem dX5_cell_84 : decode cX5_cell 84 = .ok (.aload_n 0, 1) := by decide +kernel
theorem dX5_cell_85 : decode cX5_cell 85 = .ok (.invokevirtual 64, 3) := by decide +kernel
theorem dX5_cell_88 : decode cX5_cell 88 = .ok (.iload_n 3, 1) := by decide +kernel
theorem dX5_cell_89 : decode cX5_cell 89 = .ok (.iconst 1, 1) := by decide +kernel
theorem dX5_cell_90 : decode cX5_cell 90 = .ok (.isub, 1) := by decide +kernel
theorem dX5_cell_91 : decode cX5_cell 91 = .ok (.invokestatic 131, 3) := by decide +kernel
theorem dX5_cell_94 : decode cX5_cell 94 = .ok (.ireturn, 1) := by decide +kernel
set_option maxRecDepth 20000 in
theorem ggX5_at_X5_in : GoodIn wsX5_at wsX5_in := goodIn_r _ [4] (by decide +kernel) (by decide +kernel)
set_option maxRecDepth 20000 in
theorem gX5_at_X5_in : GoodIn wsX5_at (va_wsS RX5 57 yX5_in wsX5_in) := goodIn_app (goodIn_of _ (by decide +kernel)) ggX5_at_X5_in
set_option maxRecDepth 20000 in
theorem ggX5_at_X5_isPlot : GoodIn wsX5_at wsX5_isPlot := goodIn_r _ [8, 9, 10, 1, 2, 3, 4, 29, 30, 31, 32, 33, 34, 35, 36, 37, 38, 39, 40, 41, 42, 43, 44, 45, 46, 47] (by decide +kernel) (by decide +kernel)
set_option maxRecDepth 20000 in
theorem gX5_at_X5_isPlot : GoodIn wsX5_at (wsV RX5 112 RX5 yX5_isPlot wsX5_isPlot) := goodIn_app (goodIn_of _ (by decide +kernel)) ggX5_at_X5_isPlot
set_option maxRecDepth 20000 in
theorem ggX5_at_X5_ownerOf : GoodIn wsX5_at wsX5_ownerOf := goodIn_r _ [14, 15, 16, 17, 18, 19, 3, 20, 21, 22, 23, 24, 25, 26, 27, 28, 29, 30, 31, 32, 33, 34, 35, 36, 37, 38, 39, 40, 41, 42, 43, 44, 45, 46, 47] (by decide +kernel) (by decide +kernel)
set_option maxRecDepth 20000 in
theorem gX5_at_X5_ownerOf : GoodIn wsX5_at (wsV RX5 119 RX5 yX5_ownerOf wsX5_ownerOf) := goodIn_app (goodIn_of _ (by decide +kernel)) ggX5_at_X5_ownerOf
theorem dX5_at_0 : decode cX5_at 0 = .ok (.iload_n 2, 1) := by decide +kernel
theorem dX5_at_1 : decode cX5_at 1 = .ok (.iconst 0, 1) := by decide +kernel
theorem dX5_at_2 : decode cX5_at 2 = .ok (.bipush 15, 2) := by decide +kernel
theorem dX5_at_4 : decode cX5_at 4 = .ok (.invokestatic 57, 3) := by decide +kernel
theorem dX5_at_7 : decode cX5_at 7 = .ok (.ifCond .eq 22, 3) := by decide +kernel
theorem dX5_at_10 : decode cX5_at 10 = .ok (.aload_n 0, 1) := by decide +kernel
theorem dX5_at_11 : decode cX5_at 11 = .ok (.iload_n 2, 1) := by decide +kernel
theorem dX5_at_12 : decode cX5_at 12 = .ok (.iload_n 3, 1) := by decide +kernel
theorem dX5_at_13 : decode cX5_at 13 = .ok (.invokevirtual 112, 3) := by decide +kernel
theorem dX5_at_16 : decode cX5_at 16 = .ok (.ifCond .eq 13, 3) := by decide +kernel
theorem dX5_at_19 : decode cX5_at 19 = .ok (.aload_n 0, 1) := by decide +kernel
theorem dX5_at_20 : decode cX5_at 20 = .ok (.iload_n 1, 1) := by decide +kernel
theorem dX5_at_21 : decode cX5_at 21 = .ok (.iload_n 2, 1) := by decide +kernel
theorem dX5_at_22 : decode cX5_at 22 = .ok (.iload_n 3, 1) := by decide +kernel
theorem dX5_at_23 : decode cX5_at 23 = .ok (.invokevirtual 119, 3) := by decide +kernel
theorem dX5_at_26 : decode cX5_at 26 = .ok (.goto 5, 3) := by decide +kernel
theorem dX5_at_29 : decode cX5_at 29 = .ok (.bipush (-6), 2) := by decide +kernel
theorem dX5_at_31 : decode cX5_at 31 = .ok (.ireturn, 1) := by decide +kernel
set_option maxRecDepth 20000 in
theorem ggX5_touching_X5_at : GoodIn wsX5_touching wsX5_at := goodIn_r _ [5, 6, 7, 4, 8, 9, 10, 11, 12, 13, 14, 15, 16, 17, 18, 19, 20, 21, 22, 23, 24, 25, 26, 27, 28, 29, 30, 31, 32, 33, 34, 35, 36, 37, 38, 39, 40, 41, 42, 43, 44, 45, 46, 47, 48, 49, 50, 51] (by decide +kernel) (by decide +kernel)
set_option maxRecDepth 20000 in
theorem gX5_touching_X5_at : GoodIn wsX5_touching (wsV RX5 134 RX5 yX5_at wsX5_at) := goodIn_app (goodIn_of _ (by decide +kernel)) ggX5_touching_X5_at
theorem dX5_touching_0 : decode cX5_touching 0 = .ok (.aload_n 0, 1) := by decide +kernel
theorem dX5_touching_1 : decode cX5_touching 1 = .ok (.iload_n 1, 1) := by decide +kernel
theorem dX5_touching_2 : decode cX5_touching 2 = .ok (.iload_n 2, 1) := by decide +kernel
theorem dX5_touching_3 : decode cX5_touching 3 = .ok (.iconst 1, 1) := by decide +kernel
theorem dX5_touching_4 : decode cX5_touching 4 = .ok (.isub, 1) := by decide +kernel
theorem dX5_touching_5 : decode cX5_touching 5 = .ok (.iload_n 3, 1) := by decide +kernel
theorem dX5_touching_6 : decode cX5_touching 6 = .ok (.invokevirtual 134, 3) := by decide +kernel
theorem dX5_touching_9 : decode cX5_touching 9 = .ok (.iload 4, 2) := by decide +kernel
theorem dX5_touching_11 : decode cX5_touching 11 = .ok (.if_icmp .ne 7, 3) := by decide +kernel
theorem dX5_touching_14 : decode cX5_touching 14 = .ok (.iconst 1, 1) := by decide +kernel
theorem dX5_touching_15 : decode cX5_touching 15 = .ok (.goto 4, 3) := by decide +kernel
theorem dX5_touching_18 : decode cX5_touching 18 = .ok (.iconst 0, 1) := by decide +kernel
theorem dX5_touching_19 : decode cX5_touching 19 = .ok (.aload_n 0, 1) := by decide +kernel
theorem dX5_touching_20 : decode cX5_touching 20 = .ok (.iload_n 1, 1) := by decide +kernel
theorem dX5_touching_21 : decode cX5_touching 21 = .ok (.iload_n 2, 1) := by decide +kernel
theorem dX5_touching_22 : decode cX5_touching 22 = .ok (.iconst 1, 1) := by decide +kernel
theorem dX5_touching_23 : decode cX5_touching 23 = .ok (.iadd, 1) := by decide +kernel
theorem dX5_touching_24 : decode cX5_touching 24 = .ok (.iload_n 3, 1) := by decide +kernel
theorem dX5_touching_25 : decode cX5_touching 25 = .ok (.invokevirtual 134, 3) := by decide +kernel
theorem dX5_touching_28 : decode cX5_touching 28 = .ok (.iload 4, 2) := by decide +kernel
theorem dX5_touching_30 : decode cX5_touching 30 = .ok (.if_icmp .ne 7, 3) := by decide +kernel
theorem dX5_touching_33 : decode cX5_touching 33 = .ok (.iconst 1, 1) := by decide +kernel
theorem dX5_touching_34 : decode cX5_touching 34 = .ok (.goto 4, 3) := by decide +kernel
theorem dX5_touching_37 : decode cX5_touching 37 = .ok (.iconst 0, 1) := by decide +kernel
theorem dX5_touching_38 : decode cX5_touching 38 = .ok (.iadd, 1) := by decide +kernel
theorem dX5_touching_39 : decode cX5_touching 39 = .ok (.aload_n 0, 1) := by decide +kernel
theorem dX5_touching_40 : decode cX5_touching 40 = .ok (.iload_n 1, 1) := by decide +kernel
theorem dX5_touching_41 : decode cX5_touching 41 = .ok (.iload_n 2, 1) := by decide +kernel
theorem dX5_touching_42 : decode cX5_touching 42 = .ok (.iload_n 3, 1) := by decide +kernel
theorem dX5_touching_43 : decode cX5_touching 43 = .ok (.iconst 1, 1) := by decide +kernel
theorem dX5_touching_44 : decode cX5_touching 44 = .ok (.isub, 1) := by decide +kernel
theorem dX5_touching_45 : decode cX5_touching 45 = .ok (.invokevirtual 134, 3) := by decide +kernel
theorem dX5_touching_48 : decode cX5_touching 48 = .ok (.iload 4, 2) := by decide +kernel
theorem dX5_touching_50 : decode cX5_touching 50 = .ok (.if_icmp .ne 7, 3) := by decide +kernel
theorem dX5_touching_53 : decode cX5_touching 53 = .ok (.iconst 1, 1) := by decide +kernel
theorem dX5_touching_54 : decode cX5_touching 54 = .ok (.goto 4, 3) := by decide +kernel
theorem dX5_touching_57 : decode cX5_touching 57 = .ok (.iconst 0, 1) := by decide +kernel
theorem dX5_touching_58 : decode cX5_touching 58 = .ok (.iadd, 1) := by decide +kernel
theorem dX5_touching_59 : decode cX5_touching 59 = .ok (.aload_n 0, 1) := by decide +kernel
theorem dX5_touching_60 : decode cX5_touching 60 = .ok (.iload_n 1, 1) := by decide +kernel
theorem dX5_touching_61 : decode cX5_touching 61 = .ok (.iload_n 2, 1) := by decide +kernel
theorem dX5_touching_62 : decode cX5_touching 62 = .ok (.iload_n 3, 1) := by decide +kernel
theorem dX5_touching_63 : decode cX5_touching 63 = .ok (.iconst 1, 1) := by decide +kernel
theorem dX5_touching_64 : decode cX5_touching 64 = .ok (.iadd, 1) := by decide +kernel
theorem dX5_touching_65 : decode cX5_touching 65 = .ok (.invokevirtual 134, 3) := by decide +kernel
theorem dX5_touching_68 : decode cX5_touching 68 = .ok (.iload 4, 2) := by decide +kernel
theorem dX5_touching_70 : decode cX5_touching 70 = .ok (.if_icmp .ne 7, 3) := by decide +kernel
theorem dX5_touching_73 : decode cX5_touching 73 = .ok (.iconst 1, 1) := by decide +kernel
theorem dX5_touching_74 : decode cX5_touching 74 = .ok (.goto 4, 3) := by decide +kernel
theorem dX5_touching_77 : decode cX5_touching 77 = .ok (.iconst 0, 1) := by decide +kernel
theorem dX5_touching_78 : decode cX5_touching 78 = .ok (.iadd, 1) := by decide +kernel
theorem dX5_touching_79 : decode cX5_touching 79 = .ok (.ireturn, 1) := by decide +kernel
set_option maxRecDepth 20000 in
theorem ggX5_sides_X5_at : GoodIn wsX5_sides wsX5_at := goodIn_r _ [5, 6, 7, 4, 8, 9, 10, 11, 12, 13, 14, 15, 16, 17, 18, 19, 20, 21, 22, 23, 24, 25, 26, 27, 28, 29, 30, 31, 32, 37, 38, 39, 40, 41, 42, 43, 44, 45, 46, 47, 48, 49, 50, 51, 52, 53, 54, 55] (by decide +kernel) (by decide +kernel)
set_option maxRecDepth 20000 in
theorem gX5_sides_X5_at : GoodIn wsX5_sides (wsV RX5 134 RX5 yX5_at wsX5_at) := goodIn_app (goodIn_of _ (by decide +kernel)) ggX5_sides_X5_at
set_option maxRecDepth 20000 in
theorem ggX5_sides_X5_touching : GoodIn wsX5_sides wsX5_touching := goodIn_r _ [36, 1, 2, 3, 4, 5, 6, 7, 8, 9, 10, 11, 12, 13, 14, 15, 16, 17, 18, 19, 20, 21, 22, 23, 24, 25, 26, 27, 28, 29, 30, 31, 32, 37, 38, 39, 40, 41, 42, 43, 44, 45, 46, 47, 48, 49, 50, 51, 52, 53, 54, 55] (by decide +kernel) (by decide +kernel)
set_option maxRecDepth 20000 in
theorem gX5_sides_X5_touching : GoodIn wsX5_sides (wsV RX5 137 RX5 yX5_touching wsX5_touching) := goodIn_app (goodIn_of _ (by decide +kernel)) ggX5_sides_X5_touching
theorem dX5_sides_0 : decode cX5_sides 0 = .ok (.iconst 0, 1) := by decide +kernel
theorem dX5_sides_1 : decode cX5_sides 1 = .ok (.istore 4, 2) := by decide +kernel
theorem dX5_sides_3 : decode cX5_sides 3 = .ok (.iconst 0, 1) := by decide +kernel
theorem dX5_sides_4 : decode cX5_sides 4 = .ok (.istore 5, 2) := by decide +kernel
theorem dX5_sides_6 : decode cX5_sides 6 = .ok (.iload 5, 2) := by decide +kernel
theorem dX5_sides_8 : decode cX5_sides 8 = .ok (.sipush 256, 3) := by decide +kernel
theorem dX5_sides_11 : decode cX5_sides 11 = .ok (.if_icmp .ge 53, 3) := by decide +kernel
theorem dX5_sides_14 : decode cX5_sides 14 = .ok (.iload 4, 2) := by decide +kernel
theorem dX5_sides_16 : decode cX5_sides 16 = .ok (.aload_n 0, 1) := by decide +kernel
theorem dX5_sides_17 : decode cX5_sides 17 = .ok (.iload_n 1, 1) := by decide +kernel
theorem dX5_sides_18 : decode cX5_sides 18 = .ok (.iload 5, 2) := by decide +kernel
theorem dX5_sides_20 : decode cX5_sides 20 = .ok (.bipush 16, 2) := by decide +kernel
theorem dX5_sides_22 : decode cX5_sides 22 = .ok (.irem, 1) := by decide +kernel
theorem dX5_sides_23 : decode cX5_sides 23 = .ok (.iload 5, 2) := by decide +kernel
theorem dX5_sides_25 : decode cX5_sides 25 = .ok (.bipush 16, 2) := by decide +kernel
theorem dX5_sides_27 : decode cX5_sides 27 = .ok (.idiv, 1) := by decide +kernel
theorem dX5_sides_28 : decode cX5_sides 28 = .ok (.invokevirtual 134, 3) := by decide +kernel
theorem dX5_sides_31 : decode cX5_sides 31 = .ok (.iload_n 2, 1) := by decide +kernel
theorem dX5_sides_32 : decode cX5_sides 32 = .ok (.if_icmp .ne 22, 3) := by decide +kernel
theorem dX5_sides_35 : decode cX5_sides 35 = .ok (.aload_n 0, 1) := by decide +kernel
theorem dX5_sides_36 : decode cX5_sides 36 = .ok (.iload_n 1, 1) := by decide +kernel
