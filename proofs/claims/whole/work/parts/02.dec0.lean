theorem dX0_init_0 : decode cX0_init 0 = .ok (.aload_n 0, 1) := by decide +kernel
theorem dX0_init_1 : decode cX0_init 1 = .ok (.invokespecial 3, 3) := by decide +kernel
theorem dX0_init_4 : decode cX0_init 4 = .ok (.aload_n 0, 1) := by decide +kernel
theorem dX0_init_5 : decode cX0_init 5 = .ok (.iconst 0, 1) := by decide +kernel
theorem dX0_init_6 : decode cX0_init 6 = .ok (.putfield 9, 3) := by decide +kernel
theorem dX0_init_9 : decode cX0_init 9 = .ok (.aload_n 0, 1) := by decide +kernel
theorem dX0_init_10 : decode cX0_init 10 = .ok (.sipush 256, 3) := by decide +kernel
theorem dX0_init_13 : decode cX0_init 13 = .ok (.newarray .int, 2) := by decide +kernel
theorem dX0_init_15 : decode cX0_init 15 = .ok (.putfield 15, 3) := by decide +kernel
theorem dX0_init_18 : decode cX0_init 18 = .ok (.aload_n 0, 1) := by decide +kernel
theorem dX0_init_19 : decode cX0_init 19 = .ok (.bipush 8, 2) := by decide +kernel
theorem dX0_init_21 : decode cX0_init 21 = .ok (.newarray .int, 2) := by decide +kernel
theorem dX0_init_23 : decode cX0_init 23 = .ok (.putfield 19, 3) := by decide +kernel
theorem dX0_init_26 : decode cX0_init 26 = .ok (.aload_n 0, 1) := by decide +kernel
theorem dX0_init_27 : decode cX0_init 27 = .ok (.bipush 8, 2) := by decide +kernel
theorem dX0_init_29 : decode cX0_init 29 = .ok (.newarray .int, 2) := by decide +kernel
theorem dX0_init_31 : decode cX0_init 31 = .ok (.putfield 22, 3) := by decide +kernel
theorem dX0_init_34 : decode cX0_init 34 = .ok (.iconst 0, 1) := by decide +kernel
theorem dX0_init_35 : decode cX0_init 35 = .ok (.istore_n 1, 1) := by decide +kernel
theorem dX0_init_36 : decode cX0_init 36 = .ok (.iload_n 1, 1) := by decide +kernel
theorem dX0_init_37 : decode cX0_init 37 = .ok (.sipush 256, 3) := by decide +kernel
theorem dX0_init_40 : decode cX0_init 40 = .ok (.if_icmp .ge 16, 3) := by decide +kernel
theorem dX0_init_43 : decode cX0_init 43 = .ok (.aload_n 0, 1) := by decide +kernel
theorem dX0_init_44 : decode cX0_init 44 = .ok (.getfield 15, 3) := by decide +kernel
theorem dX0_init_47 : decode cX0_init 47 = .ok (.iload_n 1, 1) := by decide +kernel
theorem dX0_init_48 : decode cX0_init 48 = .ok (.iconst (-1), 1) := by decide +kernel
theorem dX0_init_49 : decode cX0_init 49 = .ok (.iastore, 1) := by decide +kernel
theorem dX0_init_50 : decode cX0_init 50 = .ok (.iinc 1 1, 3) := by decide +kernel
theorem dX0_init_53 : decode cX0_init 53 = .ok (.goto (-17), 3) := by decide +kernel
theorem dX0_init_56 : decode cX0_init 56 = .ok (.return_, 1) := by decide +kernel
set_option maxRecDepth 20000 in
theorem ggX0_workOut_X4_isIn : GoodIn wsX0_workOut wsX4_isIn := goodIn_r _ [10] (by decide +kernel) (by decide +kernel)
set_option maxRecDepth 20000 in
theorem gX0_workOut_X4_isIn_n31 : GoodIn wsX0_workOut (wsX4_isIn) := ggX0_workOut_X4_isIn
set_option maxRecDepth 20000 in
theorem ggX0_workOut_X0_claim : GoodIn wsX0_workOut wsX0_claim := goodIn_r _ [15, 16, 17, 7, 18, 19, 2, 24, 25, 26, 27, 28, 29, 30, 31, 20, 21, 22, 23] (by decide +kernel) (by decide +kernel)
set_option maxRecDepth 20000 in
theorem gX0_workOut_X0_claim : GoodIn wsX0_workOut (wsV RX0 35 RX0 yX0_claim wsX0_claim) := goodIn_app (goodIn_of _ (by decide +kernel)) ggX0_workOut_X0_claim
theorem dX0_workOut_0 : decode cX0_workOut 0 = .ok (.aload_n 0, 1) := by decide +kernel
theorem dX0_workOut_1 : decode cX0_workOut 1 = .ok (.iload_n 2, 1) := by decide +kernel
theorem dX0_workOut_2 : decode cX0_workOut 2 = .ok (.putfield 9, 3) := by decide +kernel
theorem dX0_workOut_5 : decode cX0_workOut 5 = .ok (.iconst 0, 1) := by decide +kernel
theorem dX0_workOut_6 : decode cX0_workOut 6 = .ok (.istore 4, 2) := by decide +kernel
theorem dX0_workOut_8 : decode cX0_workOut 8 = .ok (.iload 4, 2) := by decide +kernel
theorem dX0_workOut_10 : decode cX0_workOut 10 = .ok (.sipush 256, 3) := by decide +kernel
theorem dX0_workOut_13 : decode cX0_workOut 13 = .ok (.if_icmp .ge 23, 3) := by decide +kernel
theorem dX0_workOut_16 : decode cX0_workOut 16 = .ok (.aload_n 0, 1) := by decide +kernel
theorem dX0_workOut_17 : decode cX0_workOut 17 = .ok (.getfield 15, 3) := by decide +kernel
theorem dX0_workOut_20 : decode cX0_workOut 20 = .ok (.iload 4, 2) := by decide +kernel
theorem dX0_workOut_22 : decode cX0_workOut 22 = .ok (.iconst (-1), 1) := by decide +kernel
theorem dX0_workOut_23 : decode cX0_workOut 23 = .ok (.iastore, 1) := by decide +kernel
theorem dX0_workOut_24 : decode cX0_workOut 24 = .ok (.aload_n 3, 1) := by decide +kernel
theorem dX0_workOut_25 : decode cX0_workOut 25 = .ok (.iload 4, 2) := by decide +kernel
theorem dX0_workOut_27 : decode cX0_workOut 27 = .ok (.ldc 25, 2) := by decide +kernel
theorem dX0_workOut_29 : decode cX0_workOut 29 = .ok (.iastore, 1) := by decide +kernel
theorem dX0_workOut_30 : decode cX0_workOut 30 = .ok (.iinc 4 1, 3) := by decide +kernel
theorem dX0_workOut_33 : decode cX0_workOut 33 = .ok (.goto (-25), 3) := by decide +kernel
theorem dX0_workOut_36 : decode cX0_workOut 36 = .ok (.iconst 0, 1) := by decide +kernel
theorem dX0_workOut_37 : decode cX0_workOut 37 = .ok (.istore 4, 2) := by decide +kernel
theorem dX0_workOut_39 : decode cX0_workOut 39 = .ok (.iload 4, 2) := by decide +kernel
theorem dX0_workOut_41 : decode cX0_workOut 41 = .ok (.aload_n 1, 1) := by decide +kernel
theorem dX0_workOut_42 : decode cX0_workOut 42 = .ok (.getfield 26, 3) := by decide +kernel
theorem dX0_workOut_45 : decode cX0_workOut 45 = .ok (.if_icmp .ge 29, 3) := by decide +kernel
theorem dX0_workOut_48 : decode cX0_workOut 48 = .ok (.aload_n 0, 1) := by decide +kernel
theorem dX0_workOut_49 : decode cX0_workOut 49 = .ok (.getfield 9, 3) := by decide +kernel
theorem dX0_workOut_52 : decode cX0_workOut 52 = .ok (.iload 4, 2) := by decide +kernel
theorem dX0_workOut_54 : decode cX0_workOut 54 = .ok (.invokestatic 31, 3) := by decide +kernel
theorem dX0_workOut_57 : decode cX0_workOut 57 = .ok (.ifCond .eq 11, 3) := by decide +kernel
theorem dX0_workOut_60 : decode cX0_workOut 60 = .ok (.aload_n 0, 1) := by decide +kernel
theorem dX0_workOut_61 : decode cX0_workOut 61 = .ok (.aload_n 1, 1) := by decide +kernel
theorem dX0_workOut_62 : decode cX0_workOut 62 = .ok (.iload 4, 2) := by decide +kernel
theorem dX0_workOut_64 : decode cX0_workOut 64 = .ok (.aload_n 3, 1) := by decide +kernel
theorem dX0_workOut_65 : decode cX0_workOut 65 = .ok (.invokevirtual 35, 3) := by decide +kernel
theorem dX0_workOut_68 : decode cX0_workOut 68 = .ok (.iinc 4 1, 3) := by decide +kernel
theorem dX0_workOut_71 : decode cX0_workOut 71 = .ok (.goto (-32), 3) := by decide +kernel
theorem dX0_workOut_74 : decode cX0_workOut 74 = .ok (.iconst 0, 1) := by decide +kernel
theorem dX0_workOut_75 : decode cX0_workOut 75 = .ok (.istore 4, 2) := by decide +kernel
theorem dX0_workOut_77 : decode cX0_workOut 77 = .ok (.iload 4, 2) := by decide +kernel
theorem dX0_workOut_79 : decode cX0_workOut 79 = .ok (.bipush 8, 2) := by decide +kernel
theorem dX0_workOut_81 : decode cX0_workOut 81 = .ok (.if_icmp .ge 25, 3) := by decide +kernel
theorem dX0_workOut_84 : decode cX0_workOut 84 = .ok (.aload_n 0, 1) := by decide +kernel
theorem dX0_workOut_85 : decode cX0_workOut 85 = .ok (.getfield 19, 3) := by decide +kernel
theorem dX0_workOut_88 : decode cX0_workOut 88 = .ok (.iload 4, 2) := by decide +kernel
theorem dX0_workOut_90 : decode cX0_workOut 90 = .ok (.iconst 0, 1) := by decide +kernel
theorem dX0_workOut_91 : decode cX0_workOut 91 = .ok (.iastore, 1) := by decide +kernel
theorem dX0_workOut_92 : decode cX0_workOut 92 = .ok (.aload_n 0, 1) := by decide +kernel
theorem dX0_workOut_93 : decode cX0_workOut 93 = .ok (.getfield 22, 3) := by decide +kernel
theorem dX0_workOut_96 : decode cX0_workOut 96 = .ok (.iload 4, 2) := by decide +kernel
theorem dX0_workOut_98 : decode cX0_workOut 98 = .ok (.iconst 0, 1) := by decide +kernel
theorem dX0_workOut_99 : decode cX0_workOut 99 = .ok (.iastore, 1) := by decide +kernel
theorem dX0_workOut_100 : decode cX0_workOut 100 = .ok (.iinc 4 1, 3) := by decide +kernel
theorem dX0_workOut_103 : decode cX0_workOut 103 = .ok (.goto (-26), 3) := by decide +kernel
theorem dX0_workOut_106 : decode cX0_workOut 106 = .ok (.iconst 0, 1) := by decide +kernel
theorem dX0_workOut_107 : decode cX0_workOut 107 = .ok (.istore 4, 2) := by decide +kernel
theorem dX0_workOut_109 : decode cX0_workOut 109 = .ok (.iload 4, 2) := by decide +kernel
theorem dX0_workOut_111 : decode cX0_workOut 111 = .ok (.sipush 256, 3) := by decide +kernel
theorem dX0_workOut_114 : decode cX0_workOut 114 = .ok (.if_icmp .ge 57, 3) := by decide +kernel
theorem dX0_workOut_117 : decode cX0_workOut 117 = .ok (.aload_n 0, 1) := by decide +kernel
theorem dX0_workOut_118 : decode cX0_workOut 118 = .ok (.getfield 15, 3) := by decide +kernel
theorem dX0_workOut_121 : decode cX0_workOut 121 = .ok (.iload 4, 2) := by decide +kernel
theorem dX0_workOut_123 : decode cX0_workOut 123 = .ok (.iaload, 1) := by decide +kernel
theorem dX0_workOut_124 : decode cX0_workOut 124 = .ok (.istore 5, 2) := by decide +kernel
theorem dX0_workOut_126 : decode cX0_workOut 126 = .ok (.iload 5, 2) := by decide +kernel
theorem dX0_workOut_128 : decode cX0_workOut 128 = .ok (.iconst (-1), 1) := by decide +kernel
theorem dX0_workOut_129 : decode cX0_workOut 129 = .ok (.if_icmp .eq 36, 3) := by decide +kernel
theorem dX0_workOut_132 : decode cX0_workOut 132 = .ok (.aload_n 0, 1) := by decide +kernel
theorem dX0_workOut_133 : decode cX0_workOut 133 = .ok (.getfield 19, 3) := by decide +kernel
theorem dX0_workOut_136 : decode cX0_workOut 136 = .ok (.iload 5, 2) := by decide +kernel
theorem dX0_workOut_138 : decode cX0_workOut 138 = .ok (.dup2, 1) := by decide +kernel
theorem dX0_workOut_139 : decode cX0_workOut 139 = .ok (.iaload, 1) := by decide +kernel
theorem dX0_workOut_140 : decode cX0_workOut 140 = .ok (.iconst 1, 1) := by decide +kernel
theorem dX0_workOut_141 : decode cX0_workOut 141 = .ok (.iadd, 1) := by decide +kernel
theorem dX0_workOut_142 : decode cX0_workOut 142 = .ok (.iastore, 1) := by decide +kernel
theorem dX0_workOut_143 : decode cX0_workOut 143 = .ok (.aload_n 0, 1) := by decide +kernel
theorem dX0_workOut_144 : decode cX0_workOut 144 = .ok (.getfield 22, 3) := by decide +kernel
theorem dX0_workOut_147 : decode cX0_workOut 147 = .ok (.iload 5, 2) := by decide +kernel
theorem dX0_workOut_149 : decode cX0_workOut 149 = .ok (.dup2, 1) := by decide +kernel
theorem dX0_workOut_150 : decode cX0_workOut 150 = .ok (.iaload, 1) := by decide +kernel
theorem dX0_workOut_151 : decode cX0_workOut 151 = .ok (.aload_n 3, 1) := by decide +kernel
theorem dX0_workOut_152 : decode cX0_workOut 152 = .ok (.iload 4, 2) := by decide +kernel
theorem dX0_workOut_154 : decode cX0_workOut 154 = .ok (.iaload, 1) := by decide +kernel
theorem dX0_workOut_155 : decode cX0_workOut 155 = .ok (.aload_n 1, 1) := by decide +kernel
theorem dX0_workOut_156 : decode cX0_workOut 156 = .ok (.getfield 39, 3) := by decide +kernel
theorem dX0_workOut_159 : decode cX0_workOut 159 = .ok (.iload 5, 2) := by decide +kernel
theorem dX0_workOut_161 : decode cX0_workOut 161 = .ok (.iaload, 1) := by decide +kernel
theorem dX0_workOut_162 : decode cX0_workOut 162 = .ok (.iadd, 1) := by decide +kernel
theorem dX0_workOut_163 : decode cX0_workOut 163 = .ok (.iadd, 1) := by decide +kernel
theorem dX0_workOut_164 : decode cX0_workOut 164 = .ok (.iastore, 1) := by decide +kernel
theorem dX0_workOut_165 : decode cX0_workOut 165 = .ok (.iinc 4 1, 3) := by decide +kernel
theorem dX0_workOut_168 : decode cX0_workOut 168 = .ok (.goto (-59), 3) := by decide +kernel
theorem dX0_workOut_171 : decode cX0_workOut 171 = .ok (.return_, 1) := by decide +kernel
theorem dX0_claim_0 : decode cX0_claim 0 = .ok (.aload_n 1, 1) := by decide +kernel
theorem dX0_claim_1 : decode cX0_claim 1 = .ok (.getfield 42, 3) := by decide +kernel
theorem dX0_claim_4 : decode cX0_claim 4 = .ok (.iload_n 2, 1) := by decide +kernel
theorem dX0_claim_5 : decode cX0_claim 5 = .ok (.iaload, 1) := by decide +kernel
theorem dX0_claim_6 : decode cX0_claim 6 = .ok (.istore 4, 2) := by decide +kernel
theorem dX0_claim_8 : decode cX0_claim 8 = .ok (.iconst 0, 1) := by decide +kernel
theorem dX0_claim_9 : decode cX0_claim 9 = .ok (.istore 5, 2) := by decide +kernel
theorem dX0_claim_11 : decode cX0_claim 11 = .ok (.iload 5, 2) := by decide +kernel
theorem dX0_claim_13 : decode cX0_claim 13 = .ok (.bipush 16, 2) := by decide +kernel
theorem dX0_claim_15 : decode cX0_claim 15 = .ok (.if_icmp .ge 115, 3) := by decide +kernel
theorem dX0_claim_18 : decode cX0_claim 18 = .ok (.iload 5, 2) := by decide +kernel
theorem dX0_claim_20 : decode cX0_claim 20 = .ok (.aload_n 1, 1) := by decide +kernel
theorem dX0_claim_21 : decode cX0_claim 21 = .ok (.getfield 45, 3) := by decide +kernel
theorem dX0_claim_24 : decode cX0_claim 24 = .ok (.iload_n 2, 1) := by decide +kernel
theorem dX0_claim_25 : decode cX0_claim 25 = .ok (.iaload, 1) := by decide +kernel
theorem dX0_claim_26 : decode cX0_claim 26 = .ok (.isub, 1) := by decide +kernel
theorem dX0_claim_27 : decode cX0_claim 27 = .ok (.istore 6, 2) := by decide +kernel
theorem dX0_claim_29 : decode cX0_claim 29 = .ok (.iload 6, 2) := by decide +kernel
theorem dX0_claim_31 : decode cX0_claim 31 = .ok (.iload 6, 2) := by decide +kernel
theorem dX0_claim_33 : decode cX0_claim 33 = .ok (.imul, 1) := by decide +kernel
theorem dX0_claim_34 : decode cX0_claim 34 = .ok (.aload_n 1, 1) := by decide +kernel
theorem dX0_claim_35 : decode cX0_claim 35 = .ok (.getfield 39, 3) := by decide +kernel
theorem dX0_claim_38 : decode cX0_claim 38 = .ok (.iload_n 2, 1) := by decide +kernel
theorem dX0_claim_39 : decode cX0_claim 39 = .ok (.iaload, 1) := by decide +kernel
theorem dX0_claim_40 : decode cX0_claim 40 = .ok (.isub, 1) := by decide +kernel
theorem dX0_claim_41 : decode cX0_claim 41 = .ok (.istore 7, 2) := by decide +kernel
theorem dX0_claim_43 : decode cX0_claim 43 = .ok (.aload_n 1, 1) := by decide +kernel
theorem dX0_claim_44 : decode cX0_claim 44 = .ok (.getfield 48, 3) := by decide +kernel
theorem dX0_claim_47 : decode cX0_claim 47 = .ok (.iload 5, 2) := by decide +kernel
theorem dX0_claim_49 : decode cX0_claim 49 = .ok (.iaload, 1) := by decide +kernel
theorem dX0_claim_50 : decode cX0_claim 50 = .ok (.istore 8, 2) := by decide +kernel
theorem dX0_claim_52 : decode cX0_claim 52 = .ok (.aload_n 1, 1) := by decide +kernel
theorem dX0_claim_53 : decode cX0_claim 53 = .ok (.getfield 51, 3) := by decide +kernel
theorem dX0_claim_56 : decode cX0_claim 56 = .ok (.iload 5, 2) := by decide +kernel
theorem dX0_claim_58 : decode cX0_claim 58 = .ok (.iaload, 1) := by decide +kernel
theorem dX0_claim_59 : decode cX0_claim 59 = .ok (.istore 9, 2) := by decide +kernel
theorem dX0_claim_61 : decode cX0_claim 61 = .ok (.iload 9, 2) := by decide +kernel
theorem dX0_claim_63 : decode cX0_claim 63 = .ok (.iload 8, 2) := by decide +kernel
theorem dX0_claim_65 : decode cX0_claim 65 = .ok (.if_icmp .gt 59, 3) := by decide +kernel
theorem dX0_claim_68 : decode cX0_claim 68 = .ok (.iload 9, 2) := by decide +kernel
theorem dX0_claim_70 : decode cX0_claim 70 = .ok (.iload 4, 2) := by decide +kernel
theorem dX0_claim_72 : decode cX0_claim 72 = .ok (.isub, 1) := by decide +kernel
theorem dX0_claim_73 : decode cX0_claim 73 = .ok (.istore 10, 2) := by decide +kernel
theorem dX0_claim_75 : decode cX0_claim 75 = .ok (.iload 10, 2) := by decide +kernel
theorem dX0_claim_77 : decode cX0_claim 77 = .ok (.iload 10, 2) := by decide +kernel
theorem dX0_claim_79 : decode cX0_claim 79 = .ok (.imul, 1) := by decide +kernel
theorem dX0_claim_80 : decode cX0_claim 80 = .ok (.iload 7, 2) := by decide +kernel
theorem dX0_claim_82 : decode cX0_claim 82 = .ok (.iadd, 1) := by decide +kernel
theorem dX0_claim_83 : decode cX0_claim 83 = .ok (.istore 11, 2) := by decide +kernel
theorem dX0_claim_85 : decode cX0_claim 85 = .ok (.iload 5, 2) := by decide +kernel
theorem dX0_claim_87 : decode cX0_claim 87 = .ok (.bipush 16, 2) := by decide +kernel
theorem dX0_claim_89 : decode cX0_claim 89 = .ok (.imul, 1) := by decide +kernel
theorem dX0_claim_90 : decode cX0_claim 90 = .ok (.iload 9, 2) := by decide +kernel
theorem dX0_claim_92 : decode cX0_claim 92 = .ok (.iadd, 1) := by decide +kernel
theorem dX0_claim_93 : decode cX0_claim 93 = .ok (.istore 12, 2) := by decide +kernel
theorem dX0_claim_95 : decode cX0_claim 95 = .ok (.iload 11, 2) := by decide +kernel
theorem dX0_claim_97 : decode cX0_claim 97 = .ok (.aload_n 3, 1) := by decide +kernel
theorem dX0_claim_98 : decode cX0_claim 98 = .ok (.iload 12, 2) := by decide +kernel
theorem dX0_claim_100 : decode cX0_claim 100 = .ok (.iaload, 1) := by decide +kernel
theorem dX0_claim_101 : decode cX0_claim 101 = .ok (.if_icmp .ge 17, 3) := by decide +kernel
theorem dX0_claim_104 : decode cX0_claim 104 = .ok (.aload_n 3, 1) := by decide +kernel
theorem dX0_claim_105 : decode cX0_claim 105 = .ok (.iload 12, 2) := by decide +kernel
theorem dX0_claim_107 : decode cX0_claim 107 = .ok (.iload 11, 2) := by decide +kernel
theorem dX0_claim_109 : decode cX0_claim 109 = .ok (.iastore, 1) := by decide +kernel
theorem dX0_claim_110 : decode cX0_claim 110 = .ok (.aload_n 0, 1) := by decide +kernel
theorem dX0_claim_111 : decode cX0_claim 111 = .ok (.getfield 15, 3) := by decide +kernel
theorem dX0_claim_114 : decode cX0_claim 114 = .ok (.iload 12, 2) := by decide +kernel
theorem dX0_claim_116 : decode cX0_claim 116 = .ok (.iload_n 2, 1) := by decide +kernel
theorem dX0_claim_117 : decode cX0_claim 117 = .ok (.iastore, 1) := by decide +kernel
theorem dX0_claim_118 : decode cX0_claim 118 = .ok (.iinc 9 1, 3) := by decide +kernel
theorem dX0_claim_121 : decode cX0_claim 121 = .ok (.goto (-60), 3) := by decide +kernel
theorem dX0_claim_124 : decode cX0_claim 124 = .ok (.iinc 5 1, 3) := by decide +kernel
theorem dX0_claim_127 : decode cX0_claim 127 = .ok (.goto (-116), 3) := by decide +kernel
theorem dX0_claim_130 : decode cX0_claim 130 = .ok (.return_, 1) := by decide +kernel
set_option maxRecDepth 20000 in
theorem ggX0_ownerAt_X4_isPlot : GoodIn wsX0_ownerAt wsX4_isPlot := goodIn_r _ [4] (by decide +kernel) (by decide +kernel)
set_option maxRecDepth 20000 in
theorem gX0_ownerAt_X4_isPlot_n54 : GoodIn wsX0_ownerAt (wsX4_isPlot) := ggX0_ownerAt_X4_isPlot
theorem dX0_ownerAt_0 : decode cX0_ownerAt 0 = .ok (.iload_n 1, 1) := by decide +kernel
theorem dX0_ownerAt_1 : decode cX0_ownerAt 1 = .ok (.iload_n 2, 1) := by decide +kernel
theorem dX0_ownerAt_2 : decode cX0_ownerAt 2 = .ok (.invokestatic 54, 3) := by decide +kernel
theorem dX0_ownerAt_5 : decode cX0_ownerAt 5 = .ok (.ifCond .eq 17, 3) := by decide +kernel
theorem dX0_ownerAt_8 : decode cX0_ownerAt 8 = .ok (.aload_n 0, 1) := by decide +kernel
theorem dX0_ownerAt_9 : decode cX0_ownerAt 9 = .ok (.getfield 15, 3) := by decide +kernel
theorem dX0_ownerAt_12 : decode cX0_ownerAt 12 = .ok (.iload_n 2, 1) := by decide +kernel
theorem dX0_ownerAt_13 : decode cX0_ownerAt 13 = .ok (.bipush 16, 2) := by decide +kernel
theorem dX0_ownerAt_15 : decode cX0_ownerAt 15 = .ok (.imul, 1) := by decide +kernel
theorem dX0_ownerAt_16 : decode cX0_ownerAt 16 = .ok (.iload_n 1, 1) := by decide +kernel
theorem dX0_ownerAt_17 : decode cX0_ownerAt 17 = .ok (.iadd, 1) := by decide +kernel
theorem dX0_ownerAt_18 : decode cX0_ownerAt 18 = .ok (.iaload, 1) := by decide +kernel
theorem dX0_ownerAt_19 : decode cX0_ownerAt 19 = .ok (.goto 4, 3) := by decide +kernel
theorem dX0_ownerAt_22 : decode cX0_ownerAt 22 = .ok (.iconst (-1), 1) := by decide +kernel
theorem dX0_ownerAt_23 : decode cX0_ownerAt 23 = .ok (.ireturn, 1) := by decide +kernel
theorem dX0_farOfAll_0 : decode cX0_farOfAll 0 = .ok (.iconst 0, 1) := by decide +kernel
theorem dX0_farOfAll_1 : decode cX0_farOfAll 1 = .ok (.istore_n 1, 1) := by decide +kernel
theorem dX0_farOfAll_2 : decode cX0_farOfAll 2 = .ok (.iconst 0, 1) := by decide +kernel
theorem dX0_farOfAll_3 : decode cX0_farOfAll 3 = .ok (.istore_n 2, 1) := by decide +kernel
theorem dX0_farOfAll_4 : decode cX0_farOfAll 4 = .ok (.iload_n 2, 1) := by decide +kernel
theorem dX0_farOfAll_5 : decode cX0_farOfAll 5 = .ok (.bipush 8, 2) := by decide +kernel
theorem dX0_farOfAll_7 : decode cX0_farOfAll 7 = .ok (.if_icmp .ge 18, 3) := by decide +kernel
theorem dX0_farOfAll_10 : decode cX0_farOfAll 10 = .ok (.iload_n 1, 1) := by decide +kernel
theorem dX0_farOfAll_11 : decode cX0_farOfAll 11 = .ok (.aload_n 0, 1) := by decide +kernel
theorem dX0_farOfAll_12 : decode cX0_farOfAll 12 = .ok (.getfield 22, 3) := by decide +kernel
theorem dX0_farOfAll_15 : decode cX0_farOfAll 15 = .ok (.iload_n 2, 1) := by decide +kernel
theorem dX0_farOfAll_16 : decode cX0_farOfAll 16 = .ok (.iaload, 1) := by decide +kernel
theorem dX0_farOfAll_17 : decode cX0_farOfAll 17 = .ok (.iadd, 1) := by decide +kernel
theorem dX0_farOfAll_18 : decode cX0_farOfAll 18 = .ok (.istore_n 1, 1) := by decide +kernel
theorem dX0_farOfAll_19 : decode cX0_farOfAll 19 = .ok (.iinc 2 1, 3) := by decide +kernel
theorem dX0_farOfAll_22 : decode cX0_farOfAll 22 = .ok (.goto (-18), 3) := by decide +kernel
theorem dX0_farOfAll_25 : decode cX0_farOfAll 25 = .ok (.iload_n 1, 1) := by decide +kernel
theorem dX0_farOfAll_26 : decode cX0_farOfAll 26 = .ok (.ireturn, 1) := by decide +kernel
set_option maxRecDepth 20000 in
theorem ggX0_sidesTo_X0_ownerAt : GoodIn wsX0_sidesTo wsX0_ownerAt := goodIn_r _ [5, 6, 7, 8, 9, 10, 11, 12, 13] (by decide +kernel) (by decide +kernel)
set_option maxRecDepth 20000 in
theorem gX0_sidesTo_X0_ownerAt : GoodIn wsX0_sidesTo (wsV RX0 57 RX0 yX0_ownerAt wsX0_ownerAt) := goodIn_app (goodIn_of _ (by decide +kernel)) ggX0_sidesTo_X0_ownerAt
theorem dX0_sidesTo_0 : decode cX0_sidesTo 0 = .ok (.iconst 0, 1) := by decide +kernel
theorem dX0_sidesTo_1 : decode cX0_sidesTo 1 = .ok (.istore_n 3, 1) := by decide +kernel
theorem dX0_sidesTo_2 : decode cX0_sidesTo 2 = .ok (.iconst 0, 1) := by decide +kernel
theorem dX0_sidesTo_3 : decode cX0_sidesTo 3 = .ok (.istore 4, 2) := by decide +kernel
theorem dX0_sidesTo_5 : decode cX0_sidesTo 5 = .ok (.iload 4, 2) := by decide +kernel
theorem dX0_sidesTo_7 : decode cX0_sidesTo 7 = .ok (.bipush 16, 2) := by decide +kernel
theorem dX0_sidesTo_9 : decode cX0_sidesTo 9 = .ok (.if_icmp .ge 125, 3) := by decide +kernel
theorem dX0_sidesTo_12 : decode cX0_sidesTo 12 = .ok (.iconst 0, 1) := by decide +kernel
theorem dX0_sidesTo_13 : decode cX0_sidesTo 13 = .ok (.istore 5, 2) := by decide +kernel
theorem dX0_sidesTo_15 : decode cX0_sidesTo 15 = .ok (.iload 5, 2) := by decide +kernel
theorem dX0_sidesTo_17 : decode cX0_sidesTo 17 = .ok (.bipush 16, 2) := by decide +kernel
theorem dX0_sidesTo_19 : decode cX0_sidesTo 19 = .ok (.if_icmp .ge 109, 3) := by decide +kernel
theorem dX0_sidesTo_22 : decode cX0_sidesTo 22 = .ok (.aload_n 0, 1) := by decide +kernel
theorem dX0_sidesTo_23 : decode cX0_sidesTo 23 = .ok (.iload 5, 2) := by decide +kernel
theorem dX0_sidesTo_25 : decode cX0_sidesTo 25 = .ok (.iload 4, 2) := by decide +kernel
theorem dX0_sidesTo_27 : decode cX0_sidesTo 27 = .ok (.invokevirtual 57, 3) := by decide +kernel
theorem dX0_sidesTo_30 : decode cX0_sidesTo 30 = .ok (.iload_n 1, 1) := by decide +kernel
theorem dX0_sidesTo_31 : decode cX0_sidesTo 31 = .ok (.if_icmp .ne 91, 3) := by decide +kernel
theorem dX0_sidesTo_34 : decode cX0_sidesTo 34 = .ok (.iload_n 3, 1) := by decide +kernel
theorem dX0_sidesTo_35 : decode cX0_sidesTo 35 = .ok (.aload_n 0, 1) := by decide +kernel
theorem dX0_sidesTo_36 : decode cX0_sidesTo 36 = .ok (.iload 5, 2) := by decide +kernel
theorem dX0_sidesTo_38 : decode cX0_sidesTo 38 = .ok (.iconst 1, 1) := by decide +kernel
theorem dX0_sidesTo_39 : decode cX0_sidesTo 39 = .ok (.isub, 1) := by decide +kernel
theorem dX0_sidesTo_40 : decode cX0_sidesTo 40 = .ok (.iload 4, 2) := by decide +kernel
theorem dX0_sidesTo_42 : decode cX0_sidesTo 42 = .ok (.invokevirtual 57, 3) := by decide +kernel
theorem dX0_sidesTo_45 : decode cX0_sidesTo 45 = .ok (.iload_n 2, 1) := by decide +kernel
theorem dX0_sidesTo_46 : decode cX0_sidesTo 46 = .ok (.if_icmp .ne 7, 3) := by decide +kernel
theorem dX0_sidesTo_49 : decode cX0_sidesTo 49 = .ok (.iconst 1, 1) := by decide +kernel
theorem dX0_sidesTo_50 : decode cX0_sidesTo 50 = .ok (.goto 4, 3) := by decide +kernel
theorem dX0_sidesTo_53 : decode cX0_sidesTo 53 = .ok (.iconst 0, 1) := by decide +kernel
theorem dX0_sidesTo_54 : decode cX0_sidesTo 54 = .ok (.iadd, 1) := by decide +kernel
theorem dX0_sidesTo_55 : decode cX0_sidesTo 55 = .ok (.istore_n 3, 1) := by decide +kernel
theorem dX0_sidesTo_56 : decode cX0_sidesTo 56 = .ok (.iload_n 3, 1) := by decide +kernel
theorem dX0_sidesTo_57 : decode cX0_sidesTo 57 = .ok (.aload_n 0, 1) := by decide +kernel
theorem dX0_sidesTo_58 : decode cX0_sidesTo 58 = .ok (.iload 5, 2) := by decide +kernel
theorem dX0_sidesTo_60 : decode cX0_sidesTo 60 = .ok (.iconst 1, 1) := by decide +kernel
theorem dX0_sidesTo_61 : decode cX0_sidesTo 61 = .ok (.iadd, 1) := by decide +kernel
theorem dX0_sidesTo_62 : decode cX0_sidesTo 62 = .ok (.iload 4, 2) := by decide +kernel
theorem dX0_sidesTo_64 : decode cX0_sidesTo 64 = .ok (.invokevirtual 57, 3) := by decide +kernel
theorem dX0_sidesTo_67 : decode cX0_sidesTo 67 = .ok (.iload_n 2, 1) := by decide +kernel
theorem dX0_sidesTo_68 : decode cX0_sidesTo 68 = .ok (.if_icmp .ne 7, 3) := by decide +kernel
theorem dX0_sidesTo_71 : decode cX0_sidesTo 71 = .ok (.iconst 1, 1) := by decide +kernel
theorem dX0_sidesTo_72 : decode cX0_sidesTo 72 = .ok (.goto 4, 3) := by decide +kernel
theorem dX0_sidesTo_75 : decode cX0_sidesTo 75 = .ok (.iconst 0, 1) := by decide +kernel
theorem dX0_sidesTo_76 : decode cX0_sidesTo 76 = .ok (.iadd, 1) := by decide +kernel
theorem dX0_sidesTo_77 : decode cX0_sidesTo 77 = .ok (.istore_n 3, 1) := by decide +kernel
theorem dX0_sidesTo_78 : decode cX0_sidesTo 78 = .ok (.iload_n 3, 1) := by decide +kernel
theorem dX0_sidesTo_79 : decode cX0_sidesTo 79 = .ok (.aload_n 0, 1) := by decide +kernel
theorem dX0_sidesTo_80 : decode cX0_sidesTo 80 = .ok (.iload 5, 2) := by decide +kernel
theorem dX0_sidesTo_82 : decode cX0_sidesTo 82 = .ok (.iload 4, 2) := by decide +kernel
theorem dX0_sidesTo_84 : decode cX0_sidesTo 84 = .ok (.iconst 1, 1) := by decide +kernel
theorem dX0_sidesTo_85 : decode cX0_sidesTo 85 = .ok (.isub, 1) := by decide +kernel
theorem dX0_sidesTo_86 : decode cX0_sidesTo 86 = .ok (.invokevirtual 57, 3) := by decide +kernel
theorem dX0_sidesTo_89 : decode cX0_sidesTo 89 = .ok (.iload_n 2, 1) := by decide +kernel
theorem dX0_sidesTo_90 : decode cX0_sidesTo 90 = .ok (.if_icmp .ne 7, 3) := by decide +kernel
theorem dX0_sidesTo_93 : decode cX0_sidesTo 93 = .ok (.iconst 1, 1) := by decide +kernel
theorem dX0_sidesTo_94 : decode cX0_sidesTo 94 = .ok (.goto 4, 3) := by decide +kernel
theorem dX0_sidesTo_97 : decode cX0_sidesTo 97 = .ok (.iconst 0, 1) := by decide +kernel
theorem dX0_sidesTo_98 : decode cX0_sidesTo 98 = .ok (.iadd, 1) := by decide +kernel
theorem dX0_sidesTo_99 : decode cX0_sidesTo 99 = .ok (.istore_n 3, 1) := by decide +kernel
theorem dX0_sidesTo_100 : decode cX0_sidesTo 100 = .ok (.iload_n 3, 1) := by decide +kernel
theorem dX0_sidesTo_101 : decode cX0_sidesTo 101 = .ok (.aload_n 0, 1) := by decide +kernel
theorem dX0_sidesTo_102 : decode cX0_sidesTo 102 = .ok (.iload 5, 2) := by decide +kernel
theorem dX0_sidesTo_104 : decode cX0_sidesTo 104 = .ok (.iload 4, 2) := by decide +kernel
theorem dX0_sidesTo_106 : decode cX0_sidesTo 106 = .ok (.iconst 1, 1) := by decide +kernel
theorem dX0_sidesTo_107 : decode cX0_sidesTo 107 = .ok (.iadd, 1) := by decide +kernel
theorem dX0_sidesTo_108 : decode cX0_sidesTo 108 = .ok (.invokevirtual 57, 3) := by decide +kernel
theorem dX0_sidesTo_111 : decode cX0_sidesTo 111 = .ok (.iload_n 2, 1) := by decide +kernel
theorem dX0_sidesTo_112 : decode cX0_sidesTo 112 = .ok (.if_icmp .ne 7, 3) := by decide +kernel
theorem dX0_sidesTo_115 : decode cX0_sidesTo 115 = .ok (.iconst 1, 1) := by decide +kernel
theorem dX0_sidesTo_116 : decode cX0_sidesTo 116 = .ok (.goto 4, 3) := by decide +kernel
theorem dX0_sidesTo_119 : decode cX0_sidesTo 119 = .ok (.iconst 0, 1) := by decide +kernel
theorem dX0_sidesTo_120 : decode cX0_sidesTo 120 = .ok (.iadd, 1) := by decide +kernel
theorem dX0_sidesTo_121 : decode cX0_sidesTo 121 = .ok (.istore_n 3, 1) := by decide +kernel
theorem dX0_sidesTo_122 : decode cX0_sidesTo 122 = .ok (.iinc 5 1, 3) := by decide +kernel
theorem dX0_sidesTo_125 : decode cX0_sidesTo 125 = .ok (.goto (-110), 3) := by decide +kernel
theorem dX0_sidesTo_128 : decode cX0_sidesTo 128 = .ok (.iinc 4 1, 3) := by decide +kernel
theorem dX0_sidesTo_131 : decode cX0_sidesTo 131 = .ok (.goto (-126), 3) := by decide +kernel
theorem dX0_sidesTo_134 : decode cX0_sidesTo 134 = .ok (.iload_n 3, 1) := by decide +kernel
theorem dX0_sidesTo_135 : decode cX0_sidesTo 135 = .ok (.ireturn, 1) := by decide +kernel
set_option maxRecDepth 20000 in
theorem ggX0_touching_X0_ownerAt : GoodIn wsX0_touching wsX0_ownerAt := goodIn_r _ [5, 6, 7, 8, 9, 18, 19, 20, 21] (by decide +kernel) (by decide +kernel)
set_option maxRecDepth 20000 in
theorem gX0_touching_X0_ownerAt : GoodIn wsX0_touching (wsV RX0 57 RX0 yX0_ownerAt wsX0_ownerAt) := goodIn_app (goodIn_of _ (by decide +kernel)) ggX0_touching_X0_ownerAt
set_option maxRecDepth 20000 in
theorem ggX0_touching_X0_ownersAt : GoodIn wsX0_touching wsX0_ownersAt := goodIn_r _ [13, 1, 2, 3, 4, 5, 6, 7, 8, 9, 14, 15, 18, 19, 20, 21] (by decide +kernel) (by decide +kernel)
set_option maxRecDepth 20000 in
theorem gX0_touching_X0_ownersAt : GoodIn wsX0_touching (wsV RX0 61 RX0 yX0_ownersAt wsX0_ownersAt) := goodIn_app (goodIn_of _ (by decide +kernel)) ggX0_touching_X0_ownersAt
set_option maxRecDepth 20000 in
theorem ggX0_touching_X4_without : GoodIn wsX0_touching wsX4_without := goodIn_r _ [17] (by decide +kernel) (by decide +kernel)
set_option maxRecDepth 20000 in
theorem gX0_touching_X4_without_n64 : GoodIn wsX0_touching (wsX4_without) := ggX0_touching_X4_without
theorem dX0_touching_0 : decode cX0_touching 0 = .ok (.iconst 0, 1) := by decide +kernel
theorem dX0_touching_1 : decode cX0_touching 1 = .ok (.istore_n 2, 1) := by decide +kernel
theorem dX0_touching_2 : decode cX0_touching 2 = .ok (.iconst 0, 1) := by decide +kernel
theorem dX0_touching_3 : decode cX0_touching 3 = .ok (.istore_n 3, 1) := by decide +kernel
theorem dX0_touching_4 : decode cX0_touching 4 = .ok (.iload_n 3, 1) := by decide +kernel
theorem dX0_touching_5 : decode cX0_touching 5 = .ok (.bipush 16, 2) := by decide +kernel
theorem dX0_touching_7 : decode cX0_touching 7 = .ok (.if_icmp .ge 80, 3) := by decide +kernel
theorem dX0_touching_10 : decode cX0_touching 10 = .ok (.iconst 0, 1) := by decide +kernel
theorem dX0_touching_11 : decode cX0_touching 11 = .ok (.istore 4, 2) := by decide +kernel
theorem dX0_touching_13 : decode cX0_touching 13 = .ok (.iload 4, 2) := by decide +kernel
theorem dX0_touching_15 : decode cX0_touching 15 = .ok (.bipush 16, 2) := by decide +kernel
theorem dX0_touching_17 : decode cX0_touching 17 = .ok (.if_icmp .ge 64, 3) := by decide +kernel
theorem dX0_touching_20 : decode cX0_touching 20 = .ok (.aload_n 0, 1) := by decide +kernel
theorem dX0_touching_21 : decode cX0_touching 21 = .ok (.iload 4, 2) := by decide +kernel
theorem dX0_touching_23 : decode cX0_touching 23 = .ok (.iload_n 3, 1) := by decide +kernel
theorem dX0_touching_24 : decode cX0_touching 24 = .ok (.invokevirtual 57, 3) := by decide +kernel
theorem dX0_touching_27 : decode cX0_touching 27 = .ok (.iload_n 1, 1) := by decide +kernel
theorem dX0_touching_28 : decode cX0_touching 28 = .ok (.if_icmp .ne 47, 3) := by decide +kernel
theorem dX0_touching_31 : decode cX0_touching 31 = .ok (.iload_n 2, 1) := by decide +kernel
theorem dX0_touching_32 : decode cX0_touching 32 = .ok (.aload_n 0, 1) := by decide +kernel
theorem dX0_touching_33 : decode cX0_touching 33 = .ok (.iload 4, 2) := by decide +kernel
theorem dX0_touching_35 : decode cX0_touching 35 = .ok (.iconst 1, 1) := by decide +kernel
theorem dX0_touching_36 : decode cX0_touching 36 = .ok (.isub, 1) := by decide +kernel
theorem dX0_touching_37 : decode cX0_touching 37 = .ok (.iload_n 3, 1) := by decide +kernel
theorem dX0_touching_38 : decode cX0_touching 38 = .ok (.invokevirtual 61, 3) := by decide +kernel
theorem dX0_touching_41 : decode cX0_touching 41 = .ok (.aload_n 0, 1) := by decide +kernel
theorem dX0_touching_42 : decode cX0_touching 42 = .ok (.iload 4, 2) := by decide +kernel
theorem dX0_touching_44 : decode cX0_touching 44 = .ok (.iconst 1, 1) := by decide +kernel
theorem dX0_touching_45 : decode cX0_touching 45 = .ok (.iadd, 1) := by decide +kernel
theorem dX0_touching_46 : decode cX0_touching 46 = .ok (.iload_n 3, 1) := by decide +kernel
theorem dX0_touching_47 : decode cX0_touching 47 = .ok (.invokevirtual 61, 3) := by decide +kernel
theorem dX0_touching_50 : decode cX0_touching 50 = .ok (.ior, 1) := by decide +kernel
theorem dX0_touching_51 : decode cX0_touching 51 = .ok (.ior, 1) := by decide +kernel
theorem dX0_touching_52 : decode cX0_touching 52 = .ok (.istore_n 2, 1) := by decide +kernel
theorem dX0_touching_53 : decode cX0_touching 53 = .ok (.iload_n 2, 1) := by decide +kernel
theorem dX0_touching_54 : decode cX0_touching 54 = .ok (.aload_n 0, 1) := by decide +kernel
theorem dX0_touching_55 : decode cX0_touching 55 = .ok (.iload 4, 2) := by decide +kernel
theorem dX0_touching_57 : decode cX0_touching 57 = .ok (.iload_n 3, 1) := by decide +kernel
theorem dX0_touching_58 : decode cX0_touching 58 = .ok (.iconst 1, 1) := by decide +kernel
theorem dX0_touching_59 : decode cX0_touching 59 = .ok (.isub, 1) := by decide +kernel
theorem dX0_touching_60 : decode cX0_touching 60 = .ok (.invokevirtual 61, 3) := by decide +kernel
theorem dX0_touching_63 : decode cX0_touching 63 = .ok (.aload_n 0, 1) := by decide +kernel
theorem dX0_touching_64 : decode cX0_touching 64 = .ok (.iload 4, 2) := by decide +kernel
theorem dX0_touching_66 : decode cX0_touching 66 = .ok (.iload_n 3, 1) := by decide +kernel
theorem dX0_touching_67 : decode cX0_touching 67 = .ok (.iconst 1, 1) := by decide +kernel
theorem dX0_touching_68 : decode cX0_touching 68 = .ok (.iadd, 1) := by decide +kernel
theorem dX0_touching_69 : decode cX0_touching 69 = .ok (.invokevirtual 61, 3) := by decide +kernel
theorem dX0_touching_72 : decode cX0_touching 72 = .ok (.ior, 1) := by decide +kernel
theorem dX0_touching_73 : decode cX0_touching 73 = .ok (.ior, 1) := by decide +kernel
theorem dX0_touching_74 : decode cX0_touching 74 = .ok (.istore_n 2, 1) := by decide +kernel
theorem dX0_touching_75 : decode cX0_touching 75 = .ok (.iinc 4 1, 3) := by decide +kernel
theorem dX0_touching_78 : decode cX0_touching 78 = .ok (.goto (-65), 3) := by decide +kernel
theorem dX0_touching_81 : decode cX0_touching 81 = .ok (.iinc 3 1, 3) := by decide +kernel
theorem dX0_touching_84 : decode cX0_touching 84 = .ok (.goto (-80), 3) := by decide +kernel
theorem dX0_touching_87 : decode cX0_touching 87 = .ok (.iload_n 2, 1) := by decide +kernel
theorem dX0_touching_88 : decode cX0_touching 88 = .ok (.iload_n 1, 1) := by decide +kernel
theorem dX0_touching_89 : decode cX0_touching 89 = .ok (.invokestatic 64, 3) := by decide +kernel
theorem dX0_touching_92 : decode cX0_touching 92 = .ok (.ireturn, 1) := by decide +kernel
set_option maxRecDepth 20000 in
theorem ggX0_ownersAt_X0_ownerAt : GoodIn wsX0_ownersAt wsX0_ownerAt := goodIn_r _ [5, 6, 7, 8, 9, 12, 13, 14, 15] (by decide +kernel) (by decide +kernel)
set_option maxRecDepth 20000 in
theorem gX0_ownersAt_X0_ownerAt : GoodIn wsX0_ownersAt (wsV RX0 57 RX0 yX0_ownerAt wsX0_ownerAt) := goodIn_app (goodIn_of _ (by decide +kernel)) ggX0_ownersAt_X0_ownerAt
set_option maxRecDepth 20000 in
theorem ggX0_ownersAt_X4_with : GoodIn wsX0_ownersAt wsX4_with := goodIn_r _ [11] (by decide +kernel) (by decide +kernel)
set_option maxRecDepth 20000 in
theorem gX0_ownersAt_X4_with_n67 : GoodIn wsX0_ownersAt (wsX4_with) := ggX0_ownersAt_X4_with
theorem dX0_ownersAt_0 : decode cX0_ownersAt 0 = .ok (.aload_n 0, 1) := by decide +kernel
theorem dX0_ownersAt_1 : decode cX0_ownersAt 1 = .ok (.iload_n 1, 1) := by decide +kernel
theorem dX0_ownersAt_2 : decode cX0_ownersAt 2 = .ok (.iload_n 2, 1) := by decide +kernel
theorem dX0_ownersAt_3 : decode cX0_ownersAt 3 = .ok (.invokevirtual 57, 3) := by decide +kernel
theorem dX0_ownersAt_6 : decode cX0_ownersAt 6 = .ok (.istore_n 3, 1) := by decide +kernel
theorem dX0_ownersAt_7 : decode cX0_ownersAt 7 = .ok (.iload_n 3, 1) := by decide +kernel
theorem dX0_ownersAt_8 : decode cX0_ownersAt 8 = .ok (.iconst (-1), 1) := by decide +kernel
theorem dX0_ownersAt_9 : decode cX0_ownersAt 9 = .ok (.if_icmp .ne 7, 3) := by decide +kernel
theorem dX0_ownersAt_12 : decode cX0_ownersAt 12 = .ok (.iconst 0, 1) := by decide +kernel
theorem dX0_ownersAt_13 : decode cX0_ownersAt 13 = .ok (.goto 8, 3) := by decide +kernel
theorem dX0_ownersAt_16 : decode cX0_ownersAt 16 = .ok (.iconst 0, 1) := by decide +kernel
theorem dX0_ownersAt_17 : decode cX0_ownersAt 17 = .ok (.iload_n 3, 1) := by decide +kernel
theorem dX0_ownersAt_18 : decode cX0_ownersAt 18 = .ok (.invokestatic 67, 3) := by decide +kernel
theorem dX0_ownersAt_21 : decode cX0_ownersAt 21 = .ok (.ireturn, 1) := by decide +kernel
theorem dX0_inBoth_0 : decode cX0_inBoth 0 = .ok (.iconst 0, 1) := by decide +kernel
theorem dX0_inBoth_1 : decode cX0_inBoth 1 = .ok (.istore 4, 2) := by decide +kernel
theorem dX0_inBoth_3 : decode cX0_inBoth 3 = .ok (.iconst 0, 1) := by decide +kernel
theorem dX0_inBoth_4 : decode cX0_inBoth 4 = .ok (.istore 5, 2) := by decide +kernel
theorem dX0_inBoth_6 : decode cX0_inBoth 6 = .ok (.iload 5, 2) := by decide +kernel
theorem dX0_inBoth_8 : decode cX0_inBoth 8 = .ok (.sipush 256, 3) := by decide +kernel
theorem dX0_inBoth_11 : decode cX0_inBoth 11 = .ok (.if_icmp .ge 34, 3) := by decide +kernel
theorem dX0_inBoth_14 : decode cX0_inBoth 14 = .ok (.aload_n 0, 1) := by decide +kernel
theorem dX0_inBoth_15 : decode cX0_inBoth 15 = .ok (.getfield 15, 3) := by decide +kernel
theorem dX0_inBoth_18 : decode cX0_inBoth 18 = .ok (.iload 5, 2) := by decide +kernel
theorem dX0_inBoth_20 : decode cX0_inBoth 20 = .ok (.iaload, 1) := by decide +kernel
theorem dX0_inBoth_21 : decode cX0_inBoth 21 = .ok (.iload_n 1, 1) := by decide +kernel
theorem dX0_inBoth_22 : decode cX0_inBoth 22 = .ok (.if_icmp .ne 17, 3) := by decide +kernel
theorem dX0_inBoth_25 : decode cX0_inBoth 25 = .ok (.aload_n 2, 1) := by decide +kernel
theorem dX0_inBoth_26 : decode cX0_inBoth 26 = .ok (.getfield 15, 3) := by decide +kernel
theorem dX0_inBoth_29 : decode cX0_inBoth 29 = .ok (.iload 5, 2) := by decide +kernel
theorem dX0_inBoth_31 : decode cX0_inBoth 31 = .ok (.iaload, 1) := by decide +kernel
theorem dX0_inBoth_32 : decode cX0_inBoth 32 = .ok (.iload_n 3, 1) := by decide +kernel
theorem dX0_inBoth_33 : decode cX0_inBoth 33 = .ok (.if_icmp .ne 6, 3) := by decide +kernel
theorem dX0_inBoth_36 : decode cX0_inBoth 36 = .ok (.iinc 4 1, 3) := by decide +kernel
theorem dX0_inBoth_39 : decode cX0_inBoth 39 = .ok (.iinc 5 1, 3) := by decide +kernel
theorem dX0_inBoth_42 : decode cX0_inBoth 42 = .ok (.goto (-36), 3) := by decide +kernel
theorem dX0_inBoth_45 : decode cX0_inBoth 45 = .ok (.iload 4, 2) := by decide +kernel
theorem dX0_inBoth_47 : decode cX0_inBoth 47 = .ok (.ireturn, 1) := by decide +kernel
theorem dX1_init_0 : decode cX1_init 0 = .ok (.aload_n 0, 1) := by decide +kernel
theorem dX1_init_1 : decode cX1_init 1 = .ok (.invokespecial 3, 3) := by decide +kernel
theorem dX1_init_4 : decode cX1_init 4 = .ok (.aload_n 0, 1) := by decide +kernel
theorem dX1_init_5 : decode cX1_init 5 = .ok (.bipush 16, 2) := by decide +kernel
theorem dX1_init_7 : decode cX1_init 7 = .ok (.newarray .int, 2) := by decide +kernel
theorem dX1_init_9 : decode cX1_init 9 = .ok (.putfield 9, 3) := by decide +kernel
theorem dX1_init_12 : decode cX1_init 12 = .ok (.aload_n 0, 1) := by decide +kernel
theorem dX1_init_13 : decode cX1_init 13 = .ok (.bipush 16, 2) := by decide +kernel
theorem dX1_init_15 : decode cX1_init 15 = .ok (.newarray .int, 2) := by decide +kernel
theorem dX1_init_17 : decode cX1_init 17 = .ok (.putfield 15, 3) := by decide +kernel
theorem dX1_init_20 : decode cX1_init 20 = .ok (.aload_n 0, 1) := by decide +kernel
theorem dX1_init_21 : decode cX1_init 21 = .ok (.iconst 0, 1) := by decide +kernel
theorem dX1_init_22 : decode cX1_init 22 = .ok (.putfield 18, 3) := by decide +kernel
theorem dX1_init_25 : decode cX1_init 25 = .ok (.aload_n 0, 1) := by decide +kernel
theorem dX1_init_26 : decode cX1_init 26 = .ok (.bipush 8, 2) := by decide +kernel
theorem dX1_init_28 : decode cX1_init 28 = .ok (.newarray .int, 2) := by decide +kernel
theorem dX1_init_30 : decode cX1_init 30 = .ok (.putfield 22, 3) := by decide +kernel
theorem dX1_init_33 : decode cX1_init 33 = .ok (.aload_n 0, 1) := by decide +kernel
theorem dX1_init_34 : decode cX1_init 34 = .ok (.bipush 8, 2) := by decide +kernel
theorem dX1_init_36 : decode cX1_init 36 = .ok (.newarray .int, 2) := by decide +kernel
theorem dX1_init_38 : decode cX1_init 38 = .ok (.putfield 25, 3) := by decide +kernel
theorem dX1_init_41 : decode cX1_init 41 = .ok (.aload_n 0, 1) := by decide +kernel
theorem dX1_init_42 : decode cX1_init 42 = .ok (.bipush 8, 2) := by decide +kernel
theorem dX1_init_44 : decode cX1_init 44 = .ok (.newarray .int, 2) := by decide +kernel
theorem dX1_init_46 : decode cX1_init 46 = .ok (.putfield 28, 3) := by decide +kernel
theorem dX1_init_49 : decode cX1_init 49 = .ok (.aload_n 0, 1) := by decide +kernel
theorem dX1_init_50 : decode cX1_init 50 = .ok (.bipush 8, 2) := by decide +kernel
theorem dX1_init_52 : decode cX1_init 52 = .ok (.newarray .long, 2) := by decide +kernel
theorem dX1_init_54 : decode cX1_init 54 = .ok (.putfield 31, 3) := by decide +kernel
theorem dX1_init_57 : decode cX1_init 57 = .ok (.aload_n 0, 1) := by decide +kernel
theorem dX1_init_58 : decode cX1_init 58 = .ok (.sipush 512, 3) := by decide +kernel
theorem dX1_init_61 : decode cX1_init 61 = .ok (.newarray .int, 2) := by decide +kernel
theorem dX1_init_63 : decode cX1_init 63 = .ok (.putfield 35, 3) := by decide +kernel
theorem dX1_init_66 : decode cX1_init 66 = .ok (.iconst 0, 1) := by decide +kernel
theorem dX1_init_67 : decode cX1_init 67 = .ok (.istore_n 1, 1) := by decide +kernel
theorem dX1_init_68 : decode cX1_init 68 = .ok (.iload_n 1, 1) := by decide +kernel
theorem dX1_init_69 : decode cX1_init 69 = .ok (.bipush 16, 2) := by decide +kernel
theorem dX1_init_71 : decode cX1_init 71 = .ok (.if_icmp .ge 17, 3) := by decide +kernel
theorem dX1_init_74 : decode cX1_init 74 = .ok (.aload_n 0, 1) := by decide +kernel
theorem dX1_init_75 : decode cX1_init 75 = .ok (.getfield 15, 3) := by decide +kernel
theorem dX1_init_78 : decode cX1_init 78 = .ok (.iload_n 1, 1) := by decide +kernel
theorem dX1_init_79 : decode cX1_init 79 = .ok (.bipush 15, 2) := by decide +kernel
theorem dX1_init_81 : decode cX1_init 81 = .ok (.iastore, 1) := by decide +kernel
theorem dX1_init_82 : decode cX1_init 82 = .ok (.iinc 1 1, 3) := by decide +kernel
theorem dX1_init_85 : decode cX1_init 85 = .ok (.goto (-17), 3) := by decide +kernel
theorem dX1_init_88 : decode cX1_init 88 = .ok (.iconst 0, 1) := by decide +kernel
theorem dX1_init_89 : decode cX1_init 89 = .ok (.istore_n 1, 1) := by decide +kernel
theorem dX1_init_90 : decode cX1_init 90 = .ok (.iload_n 1, 1) := by decide +kernel
theorem dX1_init_91 : decode cX1_init 91 = .ok (.sipush 512, 3) := by decide +kernel
theorem dX1_init_94 : decode cX1_init 94 = .ok (.if_icmp .ge 17, 3) := by decide +kernel
theorem dX1_init_97 : decode cX1_init 97 = .ok (.aload_n 0, 1) := by decide +kernel
theorem dX1_init_98 : decode cX1_init 98 = .ok (.getfield 35, 3) := by decide +kernel
theorem dX1_init_101 : decode cX1_init 101 = .ok (.iload_n 1, 1) := by decide +kernel
theorem dX1_init_102 : decode cX1_init 102 = .ok (.bipush (-6), 2) := by decide +kernel
theorem dX1_init_104 : decode cX1_init 104 = .ok (.iastore, 1) := by decide +kernel
theorem dX1_init_105 : decode cX1_init 105 = .ok (.iinc 1 1, 3) := by decide +kernel
theorem dX1_init_108 : decode cX1_init 108 = .ok (.goto (-18), 3) := by decide +kernel
theorem dX1_init_111 : decode cX1_init 111 = .ok (.return_, 1) := by decide +kernel
theorem dX1_copyFrom_0 : decode cX1_copyFrom 0 = .ok (.aload_n 1, 1) := by decide +kernel
theorem dX1_copyFrom_1 : decode cX1_copyFrom 1 = .ok (.getfield 9, 3) := by decide +kernel
theorem dX1_copyFrom_4 : decode cX1_copyFrom 4 = .ok (.iconst 0, 1) := by decide +kernel
theorem dX1_copyFrom_5 : decode cX1_copyFrom 5 = .ok (.aload_n 0, 1) := by decide +kernel
theorem dX1_copyFrom_6 : decode cX1_copyFrom 6 = .ok (.getfield 9, 3) := by decide +kernel
theorem dX1_copyFrom_9 : decode cX1_copyFrom 9 = .ok (.iconst 0, 1) := by decide +kernel
theorem dX1_copyFrom_10 : decode cX1_copyFrom 10 = .ok (.bipush 16, 2) := by decide +kernel
theorem dX1_copyFrom_12 : decode cX1_copyFrom 12 = .ok (.invokestatic 38, 3) := by decide +kernel
theorem dX1_copyFrom_15 : decode cX1_copyFrom 15 = .ok (.aload_n 1, 1) := by decide +kernel
theorem dX1_copyFrom_16 : decode cX1_copyFrom 16 = .ok (.getfield 15, 3) := by decide +kernel
theorem dX1_copyFrom_19 : decode cX1_copyFrom 19 = .ok (.iconst 0, 1) := by decide +kernel
theorem dX1_copyFrom_20 : decode cX1_copyFrom 20 = .ok (.aload_n 0, 1) := by decide +kernel
theorem dX1_copyFrom_21 : decode cX1_copyFrom 21 = .ok (.getfield 15, 3) := by decide +kernel
theorem dX1_copyFrom_24 : decode cX1_copyFrom 24 = .ok (.iconst 0, 1) := by decide +kernel
theorem dX1_copyFrom_25 : decode cX1_copyFrom 25 = .ok (.bipush 16, 2) := by decide +kernel
theorem dX1_copyFrom_27 : decode cX1_copyFrom 27 = .ok (.invokestatic 38, 3) := by decide +kernel
theorem dX1_copyFrom_30 : decode cX1_copyFrom 30 = .ok (.aload_n 0, 1) := by decide +kernel
theorem dX1_copyFrom_31 : decode cX1_copyFrom 31 = .ok (.aload_n 1, 1) := by decide +kernel
theorem dX1_copyFrom_32 : decode cX1_copyFrom 32 = .ok (.getfield 18, 3) := by decide +kernel
theorem dX1_copyFrom_35 : decode cX1_copyFrom 35 = .ok (.putfield 18, 3) := by decide +kernel
theorem dX1_copyFrom_38 : decode cX1_copyFrom 38 = .ok (.aload_n 1, 1) := by decide +kernel
theorem dX1_copyFrom_39 : decode cX1_copyFrom 39 = .ok (.getfield 22, 3) := by decide +kernel
theorem dX1_copyFrom_42 : decode cX1_copyFrom 42 = .ok (.iconst 0, 1) := by decide +kernel
theorem dX1_copyFrom_43 : decode cX1_copyFrom 43 = .ok (.aload_n 0, 1) := by decide +kernel
theorem dX1_copyFrom_44 : decode cX1_copyFrom 44 = .ok (.getfield 22, 3) := by decide +kernel
theorem dX1_copyFrom_47 : decode cX1_copyFrom 47 = .ok (.iconst 0, 1) := by decide +kernel
theorem dX1_copyFrom_48 : decode cX1_copyFrom 48 = .ok (.bipush 8, 2) := by decide +kernel
theorem dX1_copyFrom_50 : decode cX1_copyFrom 50 = .ok (.invokestatic 38, 3) := by decide +kernel
theorem dX1_copyFrom_53 : decode cX1_copyFrom 53 = .ok (.aload_n 1, 1) := by decide +kernel
theorem dX1_copyFrom_54 : decode cX1_copyFrom 54 = .ok (.getfield 25, 3) := by decide +kernel
theorem dX1_copyFrom_57 : decode cX1_copyFrom 57 = .ok (.iconst 0, 1) := by decide +kernel
theorem dX1_copyFrom_58 : decode cX1_copyFrom 58 = .ok (.aload_n 0, 1) := by decide +kernel
theorem dX1_copyFrom_59 : decode cX1_copyFrom 59 = .ok (.getfield 25, 3) := by decide +kernel
theorem dX1_copyFrom_62 : decode cX1_copyFrom 62 = .ok (.iconst 0, 1) := by decide +kernel
theorem dX1_copyFrom_63 : decode cX1_copyFrom 63 = .ok (.bipush 8, 2) := by decide +kernel
theorem dX1_copyFrom_65 : decode cX1_copyFrom 65 = .ok (.invokestatic 38, 3) := by decide +kernel
theorem dX1_copyFrom_68 : decode cX1_copyFrom 68 = .ok (.aload_n 1, 1) := by decide +kernel
theorem dX1_copyFrom_69 : decode cX1_copyFrom 69 = .ok (.getfield 28, 3) := by decide +kernel
theorem dX1_copyFrom_72 : decode cX1_copyFrom 72 = .ok (.iconst 0, 1) := by decide +kernel
theorem dX1_copyFrom_73 : decode cX1_copyFrom 73 = .ok (.aload_n 0, 1) := by decide +kernel
theorem dX1_copyFrom_74 : decode cX1_copyFrom 74 = .ok (.getfield 28, 3) := by decide +kernel
theorem dX1_copyFrom_77 : decode cX1_copyFrom 77 = .ok (.iconst 0, 1) := by decide +kernel
theorem dX1_copyFrom_78 : decode cX1_copyFrom 78 = .ok (.bipush 8, 2) := by decide +kernel
theorem dX1_copyFrom_80 : decode cX1_copyFrom 80 = .ok (.invokestatic 38, 3) := by decide +kernel
theorem dX1_copyFrom_83 : decode cX1_copyFrom 83 = .ok (.aload_n 1, 1) := by decide +kernel
theorem dX1_copyFrom_84 : decode cX1_copyFrom 84 = .ok (.getfield 31, 3) := by decide +kernel
theorem dX1_copyFrom_87 : decode cX1_copyFrom 87 = .ok (.iconst 0, 1) := by decide +kernel
theorem dX1_copyFrom_88 : decode cX1_copyFrom 88 = .ok (.aload_n 0, 1) := by decide +kernel
theorem dX1_copyFrom_89 : decode cX1_copyFrom 89 = .ok (.getfield 31, 3) := by decide +kernel
theorem dX1_copyFrom_92 : decode cX1_copyFrom 92 = .ok (.iconst 0, 1) := by decide +kernel
theorem dX1_copyFrom_93 : decode cX1_copyFrom 93 = .ok (.bipush 8, 2) := by decide +kernel
theorem dX1_copyFrom_95 : decode cX1_copyFrom 95 = .ok (.invokestatic 38, 3) := by decide +kernel
theorem dX1_copyFrom_98 : decode cX1_copyFrom 98 = .ok (.aload_n 1, 1) := by decide +kernel
theorem dX1_copyFrom_99 : decode cX1_copyFrom 99 = .ok (.getfield 35, 3) := by decide +kernel
theorem dX1_copyFrom_102 : decode cX1_copyFrom 102 = .ok (.iconst 0, 1) := by decide +kernel
theorem dX1_copyFrom_103 : decode cX1_copyFrom 103 = .ok (.aload_n 0, 1) := by decide +kernel
theorem dX1_copyFrom_104 : decode cX1_copyFrom 104 = .ok (.getfield 35, 3) := by decide +kernel
theorem dX1_copyFrom_107 : decode cX1_copyFrom 107 = .ok (.iconst 0, 1) := by decide +kernel
theorem dX1_copyFrom_108 : decode cX1_copyFrom 108 = .ok (.sipush 512, 3) := by decide +kernel
theorem dX1_copyFrom_111 : decode cX1_copyFrom 111 = .ok (.invokestatic 38, 3) := by decide +kernel
theorem dX1_copyFrom_114 : decode cX1_copyFrom 114 = .ok (.return_, 1) := by decide +kernel
theorem dX1_rowHasPlots_0 : decode cX1_rowHasPlots 0 = .ok (.aload_n 0, 1) := by decide +kernel
theorem dX1_rowHasPlots_1 : decode cX1_rowHasPlots 1 = .ok (.getfield 9, 3) := by decide +kernel
theorem dX1_rowHasPlots_4 : decode cX1_rowHasPlots 4 = .ok (.iload_n 1, 1) := by decide +kernel
theorem dX1_rowHasPlots_5 : decode cX1_rowHasPlots 5 = .ok (.iaload, 1) := by decide +kernel
theorem dX1_rowHasPlots_6 : decode cX1_rowHasPlots 6 = .ok (.aload_n 0, 1) := by decide +kernel
theorem dX1_rowHasPlots_7 : decode cX1_rowHasPlots 7 = .ok (.getfield 15, 3) := by decide +kernel
theorem dX1_rowHasPlots_10 : decode cX1_rowHasPlots 10 = .ok (.iload_n 1, 1) := by decide +kernel
theorem dX1_rowHasPlots_11 : decode cX1_rowHasPlots 11 = .ok (.iaload, 1) := by decide +kernel
theorem dX1_rowHasPlots_12 : decode cX1_rowHasPlots 12 = .ok (.if_icmp .gt 7, 3) := by decide +kernel
theorem dX1_rowHasPlots_15 : decode cX1_rowHasPlots 15 = .ok (.iconst 1, 1) := by decide +kernel
theorem dX1_rowHasPlots_16 : decode cX1_rowHasPlots 16 = .ok (.goto 4, 3) := by decide +kernel
theorem dX1_rowHasPlots_19 : decode cX1_rowHasPlots 19 = .ok (.iconst 0, 1) := by decide +kernel
theorem dX1_rowHasPlots_20 : decode cX1_rowHasPlots 20 = .ok (.ireturn, 1) := by decide +kernel
theorem dX1_hasPlot_0 : decode cX1_hasPlot 0 = .ok (.iload_n 1, 1) := by decide +kernel
theorem dX1_hasPlot_1 : decode cX1_hasPlot 1 = .ok (.aload_n 0, 1) := by decide +kernel
theorem dX1_hasPlot_2 : decode cX1_hasPlot 2 = .ok (.getfield 9, 3) := by decide +kernel
theorem dX1_hasPlot_5 : decode cX1_hasPlot 5 = .ok (.iload_n 2, 1) := by decide +kernel
theorem dX1_hasPlot_6 : decode cX1_hasPlot 6 = .ok (.iaload, 1) := by decide +kernel
theorem dX1_hasPlot_7 : decode cX1_hasPlot 7 = .ok (.if_icmp .lt 17, 3) := by decide +kernel
theorem dX1_hasPlot_10 : decode cX1_hasPlot 10 = .ok (.iload_n 1, 1) := by decide +kernel
theorem dX1_hasPlot_11 : decode cX1_hasPlot 11 = .ok (.aload_n 0, 1) := by decide +kernel
theorem dX1_hasPlot_12 : decode cX1_hasPlot 12 = .ok (.getfield 15, 3) := by decide +kernel
theorem dX1_hasPlot_15 : decode cX1_hasPlot 15 = .ok (.iload_n 2, 1) := by decide +kernel
theorem dX1_hasPlot_16 : decode cX1_hasPlot 16 = .ok (.iaload, 1) := by decide +kernel
theorem dX1_hasPlot_17 : decode cX1_hasPlot 17 = .ok (.if_icmp .gt 7, 3) := by decide +kernel
theorem dX1_hasPlot_20 : decode cX1_hasPlot 20 = .ok (.iconst 1, 1) := by decide +kernel
theorem dX1_hasPlot_21 : decode cX1_hasPlot 21 = .ok (.goto 4, 3) := by decide +kernel
theorem dX1_hasPlot_24 : decode cX1_hasPlot 24 = .ok (.iconst 0, 1) := by decide +kernel
theorem dX1_hasPlot_25 : decode cX1_hasPlot 25 = .ok (.ireturn, 1) := by decide +kernel
set_option maxRecDepth 20000 in
theorem ggX1_plotCount_X1_rowHasPlots : GoodIn wsX1_plotCount wsX1_rowHasPlots := goodIn_r _ [7, 2, 1, 8, 9, 10, 11, 12, 13, 14, 15] (by decide +kernel) (by decide +kernel)
set_option maxRecDepth 20000 in
theorem gX1_plotCount_X1_rowHasPlots : GoodIn wsX1_plotCount (wsV RX1 44 RX1 yX1_rowHasPlots wsX1_rowHasPlots) := goodIn_app (goodIn_of _ (by decide +kernel)) ggX1_plotCount_X1_rowHasPlots
theorem dX1_plotCount_0 : decode cX1_plotCount 0 = .ok (.iconst 0, 1) := by decide +kernel
theorem dX1_plotCount_1 : decode cX1_plotCount 1 = .ok (.istore_n 1, 1) := by decide +kernel
theorem dX1_plotCount_2 : decode cX1_plotCount 2 = .ok (.iconst 0, 1) := by decide +kernel
theorem dX1_plotCount_3 : decode cX1_plotCount 3 = .ok (.istore_n 2, 1) := by decide +kernel
theorem dX1_plotCount_4 : decode cX1_plotCount 4 = .ok (.iload_n 2, 1) := by decide +kernel
theorem dX1_plotCount_5 : decode cX1_plotCount 5 = .ok (.bipush 16, 2) := by decide +kernel
theorem dX1_plotCount_7 : decode cX1_plotCount 7 = .ok (.if_icmp .ge 35, 3) := by decide +kernel
theorem dX1_plotCount_10 : decode cX1_plotCount 10 = .ok (.aload_n 0, 1) := by decide +kernel
theorem dX1_plotCount_11 : decode cX1_plotCount 11 = .ok (.iload_n 2, 1) := by decide +kernel
theorem dX1_plotCount_12 : decode cX1_plotCount 12 = .ok (.invokevirtual 44, 3) := by decide +kernel
theorem dX1_plotCount_15 : decode cX1_plotCount 15 = .ok (.ifCond .eq 21, 3) := by decide +kernel
theorem dX1_plotCount_18 : decode cX1_plotCount 18 = .ok (.iload_n 1, 1) := by decide +kernel
theorem dX1_plotCount_19 : decode cX1_plotCount 19 = .ok (.aload_n 0, 1) := by decide +kernel
theorem dX1_plotCount_20 : decode cX1_plotCount 20 = .ok (.getfield 15, 3) := by decide +kernel
theorem dX1_plotCount_23 : decode cX1_plotCount 23 = .ok (.iload_n 2, 1) := by decide +kernel
theorem dX1_plotCount_24 : decode cX1_plotCount 24 = .ok (.iaload, 1) := by decide +kernel
theorem dX1_plotCount_25 : decode cX1_plotCount 25 = .ok (.aload_n 0, 1) := by decide +kernel
theorem dX1_plotCount_26 : decode cX1_plotCount 26 = .ok (.getfield 9, 3) := by decide +kernel
theorem dX1_plotCount_29 : decode cX1_plotCount 29 = .ok (.iload_n 2, 1) := by decide +kernel
theorem dX1_plotCount_30 : decode cX1_plotCount 30 = .ok (.iaload, 1) := by decide +kernel
theorem dX1_plotCount_31 : decode cX1_plotCount 31 = .ok (.isub, 1) := by decide +kernel
theorem dX1_plotCount_32 : decode cX1_plotCount 32 = .ok (.iconst 1, 1) := by decide +kernel
theorem dX1_plotCount_33 : decode cX1_plotCount 33 = .ok (.iadd, 1) := by decide +kernel
theorem dX1_plotCount_34 : decode cX1_plotCount 34 = .ok (.iadd, 1) := by decide +kernel
theorem dX1_plotCount_35 : decode cX1_plotCount 35 = .ok (.istore_n 1, 1) := by decide +kernel
theorem dX1_plotCount_36 : decode cX1_plotCount 36 = .ok (.iinc 2 1, 3) := by decide +kernel
theorem dX1_plotCount_39 : decode cX1_plotCount 39 = .ok (.goto (-35), 3) := by decide +kernel
theorem dX1_plotCount_42 : decode cX1_plotCount 42 = .ok (.iload_n 1, 1) := by decide +kernel
theorem dX1_plotCount_43 : decode cX1_plotCount 43 = .ok (.ireturn, 1) := by decide +kernel
theorem dX1_knows_0 : decode cX1_knows 0 = .ok (.iload_n 1, 1) := by decide +kernel
theorem dX1_knows_1 : decode cX1_knows 1 = .ok (.ifCond .lt 15, 3) := by decide +kernel
theorem dX1_knows_4 : decode cX1_knows 4 = .ok (.iload_n 1, 1) := by decide +kernel
theorem dX1_knows_5 : decode cX1_knows 5 = .ok (.aload_n 0, 1) := by decide +kernel
theorem dX1_knows_6 : decode cX1_knows 6 = .ok (.getfield 18, 3) := by decide +kernel
theorem dX1_knows_9 : decode cX1_knows 9 = .ok (.if_icmp .ge 7, 3) := by decide +kernel
theorem dX1_knows_12 : decode cX1_knows 12 = .ok (.iconst 1, 1) := by decide +kernel
theorem dX1_knows_13 : decode cX1_knows 13 = .ok (.goto 4, 3) := by decide +kernel
theorem dX1_knows_16 : decode cX1_knows 16 = .ok (.iconst 0, 1) := by decide +kernel
theorem dX1_knows_17 : decode cX1_knows 17 = .ok (.ireturn, 1) := by decide +kernel
theorem dX1_gaugeAt_0 : decode cX1_gaugeAt 0 = .ok (.iconst 0, 1) := by decide +kernel
theorem dX1_gaugeAt_1 : decode cX1_gaugeAt 1 = .ok (.istore_n 3, 1) := by decide +kernel
theorem dX1_gaugeAt_2 : decode cX1_gaugeAt 2 = .ok (.iload_n 3, 1) := by decide +kernel
theorem dX1_gaugeAt_3 : decode cX1_gaugeAt 3 = .ok (.aload_n 0, 1) := by decide +kernel
theorem dX1_gaugeAt_4 : decode cX1_gaugeAt 4 = .ok (.getfield 18, 3) := by decide +kernel
theorem dX1_gaugeAt_7 : decode cX1_gaugeAt 7 = .ok (.if_icmp .ge 31, 3) := by decide +kernel
theorem dX1_gaugeAt_10 : decode cX1_gaugeAt 10 = .ok (.aload_n 0, 1) := by decide +kernel
theorem dX1_gaugeAt_11 : decode cX1_gaugeAt 11 = .ok (.getfield 22, 3) := by decide +kernel
theorem dX1_gaugeAt_14 : decode cX1_gaugeAt 14 = .ok (.iload_n 3, 1) := by decide +kernel
theorem dX1_gaugeAt_15 : decode cX1_gaugeAt 15 = .ok (.iaload, 1) := by decide +kernel
theorem dX1_gaugeAt_16 : decode cX1_gaugeAt 16 = .ok (.iload_n 1, 1) := by decide +kernel
theorem dX1_gaugeAt_17 : decode cX1_gaugeAt 17 = .ok (.if_icmp .ne 15, 3) := by decide +kernel
theorem dX1_gaugeAt_20 : decode cX1_gaugeAt 20 = .ok (.aload_n 0, 1) := by decide +kernel
theorem dX1_gaugeAt_21 : decode cX1_gaugeAt 21 = .ok (.getfield 25, 3) := by decide +kernel
theorem dX1_gaugeAt_24 : decode cX1_gaugeAt 24 = .ok (.iload_n 3, 1) := by decide +kernel
theorem dX1_gaugeAt_25 : decode cX1_gaugeAt 25 = .ok (.iaload, 1) := by decide +kernel
theorem dX1_gaugeAt_26 : decode cX1_gaugeAt 26 = .ok (.iload_n 2, 1) := by decide +kernel
theorem dX1_gaugeAt_27 : decode cX1_gaugeAt 27 = .ok (.if_icmp .ne 5, 3) := by decide +kernel
theorem dX1_gaugeAt_30 : decode cX1_gaugeAt 30 = .ok (.iload_n 3, 1) := by decide +kernel
theorem dX1_gaugeAt_31 : decode cX1_gaugeAt 31 = .ok (.ireturn, 1) := by decide +kernel
theorem dX1_gaugeAt_32 : decode cX1_gaugeAt 32 = .ok (.iinc 3 1, 3) := by decide +kernel
theorem dX1_gaugeAt_35 : decode cX1_gaugeAt 35 = .ok (.goto (-33), 3) := by decide +kernel
theorem dX1_gaugeAt_38 : decode cX1_gaugeAt 38 = .ok (.iconst (-1), 1) := by decide +kernel
theorem dX1_gaugeAt_39 : decode cX1_gaugeAt 39 = .ok (.ireturn, 1) := by decide +kernel
theorem dX1_farFrom_0 : decode cX1_farFrom 0 = .ok (.iload_n 2, 1) := by decide +kernel
theorem dX1_farFrom_1 : decode cX1_farFrom 1 = .ok (.aload_n 0, 1) := by decide +kernel
theorem dX1_farFrom_2 : decode cX1_farFrom 2 = .ok (.getfield 22, 3) := by decide +kernel
theorem dX1_farFrom_5 : decode cX1_farFrom 5 = .ok (.iload_n 1, 1) := by decide +kernel
theorem dX1_farFrom_6 : decode cX1_farFrom 6 = .ok (.iaload, 1) := by decide +kernel
theorem dX1_farFrom_7 : decode cX1_farFrom 7 = .ok (.isub, 1) := by decide +kernel
theorem dX1_farFrom_8 : decode cX1_farFrom 8 = .ok (.istore 4, 2) := by decide +kernel
theorem dX1_farFrom_10 : decode cX1_farFrom 10 = .ok (.iload_n 3, 1) := by decide +kernel
theorem dX1_farFrom_11 : decode cX1_farFrom 11 = .ok (.aload_n 0, 1) := by decide +kernel
theorem dX1_farFrom_12 : decode cX1_farFrom 12 = .ok (.getfield 25, 3) := by decide +kernel
theorem dX1_farFrom_15 : decode cX1_farFrom 15 = .ok (.iload_n 1, 1) := by decide +kernel
theorem dX1_farFrom_16 : decode cX1_farFrom 16 = .ok (.iaload, 1) := by decide +kernel
theorem dX1_farFrom_17 : decode cX1_farFrom 17 = .ok (.isub, 1) := by decide +kernel
theorem dX1_farFrom_18 : decode cX1_farFrom 18 = .ok (.istore 5, 2) := by decide +kernel
theorem dX1_farFrom_20 : decode cX1_farFrom 20 = .ok (.iload 4, 2) := by decide +kernel
theorem dX1_farFrom_22 : decode cX1_farFrom 22 = .ok (.iload 4, 2) := by decide +kernel
theorem dX1_farFrom_24 : decode cX1_farFrom 24 = .ok (.imul, 1) := by decide +kernel
theorem dX1_farFrom_25 : decode cX1_farFrom 25 = .ok (.iload 5, 2) := by decide +kernel
theorem dX1_farFrom_27 : decode cX1_farFrom 27 = .ok (.iload 5, 2) := by decide +kernel
theorem dX1_farFrom_29 : decode cX1_farFrom 29 = .ok (.imul, 1) := by decide +kernel
theorem dX1_farFrom_30 : decode cX1_farFrom 30 = .ok (.iadd, 1) := by decide +kernel
theorem dX1_farFrom_31 : decode cX1_farFrom 31 = .ok (.ireturn, 1) := by decide +kernel
theorem dX1_putOut_0 : decode cX1_putOut 0 = .ok (.lconst 1, 1) := by decide +kernel
theorem dX1_putOut_1 : decode cX1_putOut 1 = .ok (.iload_n 2, 1) := by decide +kernel
theorem dX1_putOut_2 : decode cX1_putOut 2 = .ok (.lshl, 1) := by decide +kernel
theorem dX1_putOut_3 : decode cX1_putOut 3 = .ok (.lstore 4, 2) := by decide +kernel
theorem dX1_putOut_5 : decode cX1_putOut 5 = .ok (.aload_n 0, 1) := by decide +kernel
theorem dX1_putOut_6 : decode cX1_putOut 6 = .ok (.getfield 31, 3) := by decide +kernel
theorem dX1_putOut_9 : decode cX1_putOut 9 = .ok (.iload_n 1, 1) := by decide +kernel
theorem dX1_putOut_10 : decode cX1_putOut 10 = .ok (.iload_n 3, 1) := by decide +kernel
theorem dX1_putOut_11 : decode cX1_putOut 11 = .ok (.ifCond .eq 15, 3) := by decide +kernel
theorem dX1_putOut_14 : decode cX1_putOut 14 = .ok (.aload_n 0, 1) := by decide +kernel
theorem dX1_putOut_15 : decode cX1_putOut 15 = .ok (.getfield 31, 3) := by decide +kernel
theorem dX1_putOut_18 : decode cX1_putOut 18 = .ok (.iload_n 1, 1) := by decide +kernel
theorem dX1_putOut_19 : decode cX1_putOut 19 = .ok (.laload, 1) := by decide +kernel
theorem dX1_putOut_20 : decode cX1_putOut 20 = .ok (.lload 4, 2) := by decide +kernel
theorem dX1_putOut_22 : decode cX1_putOut 22 = .ok (.lor, 1) := by decide +kernel
theorem dX1_putOut_23 : decode cX1_putOut 23 = .ok (.goto 16, 3) := by decide +kernel
theorem dX1_putOut_26 : decode cX1_putOut 26 = .ok (.aload_n 0, 1) := by decide +kernel
theorem dX1_putOut_27 : decode cX1_putOut 27 = .ok (.getfield 31, 3) := by decide +kernel
theorem dX1_putOut_30 : decode cX1_putOut 30 = .ok (.iload_n 1, 1) := by decide +kernel
theorem dX1_putOut_31 : decode cX1_putOut 31 = .ok (.laload, 1) := by decide +kernel
theorem dX1_putOut_32 : decode cX1_putOut 32 = .ok (.lload 4, 2) := by decide +kernel
theorem dX1_putOut_34 : decode cX1_putOut 34 = .ok (.ldc2_w 48, 3) := by decide +kernel
theorem dX1_putOut_37 : decode cX1_putOut 37 = .ok (.lxor, 1) := by decide +kernel
theorem dX1_putOut_38 : decode cX1_putOut 38 = .ok (.land, 1) := by decide +kernel
theorem dX1_putOut_39 : decode cX1_putOut 39 = .ok (.lastore, 1) := by decide +kernel
theorem dX1_putOut_40 : decode cX1_putOut 40 = .ok (.return_, 1) := by decide +kernel
set_option maxRecDepth 20000 in
theorem ggX1_daysOut_J13_bitCount_95d88 : GoodIn wsX1_daysOut wsJ13_bitCount_95d88 := goodIn_r _ [5, 6, 7, 8] (by decide +kernel) (by decide +kernel)
set_option maxRecDepth 20000 in
theorem gX1_daysOut_J13_bitCount_95d88 : GoodIn wsX1_daysOut (va_wsS RX1 50 yJ13_bitCount_95d88 wsJ13_bitCount_95d88) := goodIn_app (goodIn_of _ (by decide +kernel)) ggX1_daysOut_J13_bitCount_95d88
theorem dX1_daysOut_0 : decode cX1_daysOut 0 = .ok (.aload_n 0, 1) := by decide +kernel
theorem dX1_daysOut_1 : decode cX1_daysOut 1 = .ok (.getfield 31, 3) := by decide +kernel
theorem dX1_daysOut_4 : decode cX1_daysOut 4 = .ok (.iload_n 1, 1) := by decide +kernel
theorem dX1_daysOut_5 : decode cX1_daysOut 5 = .ok (.laload, 1) := by decide +kernel
theorem dX1_daysOut_6 : decode cX1_daysOut 6 = .ok (.invokestatic 50, 3) := by decide +kernel
theorem dX1_daysOut_9 : decode cX1_daysOut 9 = .ok (.ireturn, 1) := by decide +kernel
set_option maxRecDepth 20000 in
theorem ggX1_daysRead_X1_readingOf : GoodIn wsX1_daysRead wsX1_readingOf := goodIn_r _ [5, 6, 7, 8, 9, 10, 11, 12, 13, 14] (by decide +kernel) (by decide +kernel)
set_option maxRecDepth 20000 in
theorem gX1_daysRead_X1_readingOf : GoodIn wsX1_daysRead (wsV RX1 56 RX1 yX1_readingOf wsX1_readingOf) := goodIn_app (goodIn_of _ (by decide +kernel)) ggX1_daysRead_X1_readingOf
theorem dX1_daysRead_0 : decode cX1_daysRead 0 = .ok (.iconst 0, 1) := by decide +kernel
theorem dX1_daysRead_1 : decode cX1_daysRead 1 = .ok (.istore_n 2, 1) := by decide +kernel
theorem dX1_daysRead_2 : decode cX1_daysRead 2 = .ok (.iconst 0, 1) := by decide +kernel
theorem dX1_daysRead_3 : decode cX1_daysRead 3 = .ok (.istore_n 3, 1) := by decide +kernel
theorem dX1_daysRead_4 : decode cX1_daysRead 4 = .ok (.iload_n 3, 1) := by decide +kernel
theorem dX1_daysRead_5 : decode cX1_daysRead 5 = .ok (.bipush 64, 2) := by decide +kernel
theorem dX1_daysRead_7 : decode cX1_daysRead 7 = .ok (.if_icmp .ge 23, 3) := by decide +kernel
theorem dX1_daysRead_10 : decode cX1_daysRead 10 = .ok (.aload_n 0, 1) := by decide +kernel
theorem dX1_daysRead_11 : decode cX1_daysRead 11 = .ok (.iload_n 1, 1) := by decide +kernel
theorem dX1_daysRead_12 : decode cX1_daysRead 12 = .ok (.iload_n 3, 1) := by decide +kernel
theorem dX1_daysRead_13 : decode cX1_daysRead 13 = .ok (.invokevirtual 56, 3) := by decide +kernel
theorem dX1_daysRead_16 : decode cX1_daysRead 16 = .ok (.bipush (-6), 2) := by decide +kernel
theorem dX1_daysRead_18 : decode cX1_daysRead 18 = .ok (.if_icmp .eq 6, 3) := by decide +kernel
theorem dX1_daysRead_21 : decode cX1_daysRead 21 = .ok (.iinc 2 1, 3) := by decide +kernel
theorem dX1_daysRead_24 : decode cX1_daysRead 24 = .ok (.iinc 3 1, 3) := by decide +kernel
theorem dX1_daysRead_27 : decode cX1_daysRead 27 = .ok (.goto (-23), 3) := by decide +kernel
theorem dX1_daysRead_30 : decode cX1_daysRead 30 = .ok (.iload_n 2, 1) := by decide +kernel
theorem dX1_daysRead_31 : decode cX1_daysRead 31 = .ok (.ireturn, 1) := by decide +kernel
theorem dX1_readingOf_0 : decode cX1_readingOf 0 = .ok (.aload_n 0, 1) := by decide +kernel
theorem dX1_readingOf_1 : decode cX1_readingOf 1 = .ok (.getfield 35, 3) := by decide +kernel
theorem dX1_readingOf_4 : decode cX1_readingOf 4 = .ok (.iload_n 1, 1) := by decide +kernel
theorem dX1_readingOf_5 : decode cX1_readingOf 5 = .ok (.bipush 64, 2) := by decide +kernel
theorem dX1_readingOf_7 : decode cX1_readingOf 7 = .ok (.imul, 1) := by decide +kernel
theorem dX1_readingOf_8 : decode cX1_readingOf 8 = .ok (.iload_n 2, 1) := by decide +kernel
theorem dX1_readingOf_9 : decode cX1_readingOf 9 = .ok (.iadd, 1) := by decide +kernel
theorem dX1_readingOf_10 : decode cX1_readingOf 10 = .ok (.iaload, 1) := by decide +kernel
theorem dX1_readingOf_11 : decode cX1_readingOf 11 = .ok (.ireturn, 1) := by decide +kernel
theorem dX1_putReading_0 : decode cX1_putReading 0 = .ok (.aload_n 0, 1) := by decide +kernel
theorem dX1_putReading_1 : decode cX1_putReading 1 = .ok (.getfield 35, 3) := by decide +kernel
theorem dX1_putReading_4 : decode cX1_putReading 4 = .ok (.iload_n 1, 1) := by decide +kernel
theorem dX1_putReading_5 : decode cX1_putReading 5 = .ok (.bipush 64, 2) := by decide +kernel
theorem dX1_putReading_7 : decode cX1_putReading 7 = .ok (.imul, 1) := by decide +kernel
theorem dX1_putReading_8 : decode cX1_putReading 8 = .ok (.iload_n 2, 1) := by decide +kernel
theorem dX1_putReading_9 : decode cX1_putReading 9 = .ok (.iadd, 1) := by decide +kernel
theorem dX1_putReading_10 : decode cX1_putReading 10 = .ok (.iload_n 3, 1) := by decide +kernel
theorem dX1_putReading_11 : decode cX1_putReading 11 = .ok (.iastore, 1) := by decide +kernel
theorem dX1_putReading_12 : decode cX1_putReading 12 = .ok (.return_, 1) := by decide +kernel
set_option maxRecDepth 20000 in
theorem ggX1_workingOn_X1_readingOf : GoodIn wsX1_workingOn wsX1_readingOf := goodIn_r _ [7, 8, 12, 13, 14, 15, 16, 17, 18, 19] (by decide +kernel) (by decide +kernel)
set_option maxRecDepth 20000 in
theorem gX1_workingOn_X1_readingOf : GoodIn wsX1_workingOn (wsV RX1 56 RX1 yX1_readingOf wsX1_readingOf) := goodIn_app (goodIn_of _ (by decide +kernel)) ggX1_workingOn_X1_readingOf
set_option maxRecDepth 20000 in
theorem ggX1_workingOn_X4_with : GoodIn wsX1_workingOn wsX4_with := goodIn_r _ [11] (by decide +kernel) (by decide +kernel)
set_option maxRecDepth 20000 in
theorem gX1_workingOn_X4_with_n60 : GoodIn wsX1_workingOn (wsX4_with) := ggX1_workingOn_X4_with
theorem dX1_workingOn_0 : decode cX1_workingOn 0 = .ok (.iconst 0, 1) := by decide +kernel
theorem dX1_workingOn_1 : decode cX1_workingOn 1 = .ok (.istore_n 2, 1) := by decide +kernel
theorem dX1_workingOn_2 : decode cX1_workingOn 2 = .ok (.iconst 0, 1) := by decide +kernel
theorem dX1_workingOn_3 : decode cX1_workingOn 3 = .ok (.istore_n 3, 1) := by decide +kernel
theorem dX1_workingOn_4 : decode cX1_workingOn 4 = .ok (.iload_n 3, 1) := by decide +kernel
theorem dX1_workingOn_5 : decode cX1_workingOn 5 = .ok (.aload_n 0, 1) := by decide +kernel
theorem dX1_workingOn_6 : decode cX1_workingOn 6 = .ok (.getfield 18, 3) := by decide +kernel
theorem dX1_workingOn_9 : decode cX1_workingOn 9 = .ok (.if_icmp .ge 53, 3) := by decide +kernel
theorem dX1_workingOn_12 : decode cX1_workingOn 12 = .ok (.aload_n 0, 1) := by decide +kernel
theorem dX1_workingOn_13 : decode cX1_workingOn 13 = .ok (.getfield 31, 3) := by decide +kernel
theorem dX1_workingOn_16 : decode cX1_workingOn 16 = .ok (.iload_n 3, 1) := by decide +kernel
theorem dX1_workingOn_17 : decode cX1_workingOn 17 = .ok (.laload, 1) := by decide +kernel
theorem dX1_workingOn_18 : decode cX1_workingOn 18 = .ok (.lconst 1, 1) := by decide +kernel
theorem dX1_workingOn_19 : decode cX1_workingOn 19 = .ok (.iload_n 1, 1) := by decide +kernel
theorem dX1_workingOn_20 : decode cX1_workingOn 20 = .ok (.lshl, 1) := by decide +kernel
theorem dX1_workingOn_21 : decode cX1_workingOn 21 = .ok (.land, 1) := by decide +kernel
theorem dX1_workingOn_22 : decode cX1_workingOn 22 = .ok (.lconst 0, 1) := by decide +kernel
theorem dX1_workingOn_23 : decode cX1_workingOn 23 = .ok (.lcmp, 1) := by decide +kernel
theorem dX1_workingOn_24 : decode cX1_workingOn 24 = .ok (.ifCond .eq 7, 3) := by decide +kernel
theorem dX1_workingOn_27 : decode cX1_workingOn 27 = .ok (.iconst 1, 1) := by decide +kernel
theorem dX1_workingOn_28 : decode cX1_workingOn 28 = .ok (.goto 4, 3) := by decide +kernel
theorem dX1_workingOn_31 : decode cX1_workingOn 31 = .ok (.iconst 0, 1) := by decide +kernel
theorem dX1_workingOn_32 : decode cX1_workingOn 32 = .ok (.istore 4, 2) := by decide +kernel
theorem dX1_workingOn_34 : decode cX1_workingOn 34 = .ok (.iload 4, 2) := by decide +kernel
theorem dX1_workingOn_36 : decode cX1_workingOn 36 = .ok (.ifCond .ne 20, 3) := by decide +kernel
theorem dX1_workingOn_39 : decode cX1_workingOn 39 = .ok (.aload_n 0, 1) := by decide +kernel
theorem dX1_workingOn_40 : decode cX1_workingOn 40 = .ok (.iload_n 3, 1) := by decide +kernel
theorem dX1_workingOn_41 : decode cX1_workingOn 41 = .ok (.iload_n 1, 1) := by decide +kernel
theorem dX1_workingOn_42 : decode cX1_workingOn 42 = .ok (.invokevirtual 56, 3) := by decide +kernel
theorem dX1_workingOn_45 : decode cX1_workingOn 45 = .ok (.bipush (-6), 2) := by decide +kernel
theorem dX1_workingOn_47 : decode cX1_workingOn 47 = .ok (.if_icmp .eq 9, 3) := by decide +kernel
theorem dX1_workingOn_50 : decode cX1_workingOn 50 = .ok (.iload_n 2, 1) := by decide +kernel
theorem dX1_workingOn_51 : decode cX1_workingOn 51 = .ok (.iload_n 3, 1) := by decide +kernel
theorem dX1_workingOn_52 : decode cX1_workingOn 52 = .ok (.invokestatic 60, 3) := by decide +kernel
theorem dX1_workingOn_55 : decode cX1_workingOn 55 = .ok (.istore_n 2, 1) := by decide +kernel
theorem dX1_workingOn_56 : decode cX1_workingOn 56 = .ok (.iinc 3 1, 3) := by decide +kernel
theorem dX1_workingOn_59 : decode cX1_workingOn 59 = .ok (.goto (-55), 3) := by decide +kernel
theorem dX1_workingOn_62 : decode cX1_workingOn 62 = .ok (.iload_n 2, 1) := by decide +kernel
theorem dX1_workingOn_63 : decode cX1_workingOn 63 = .ok (.ireturn, 1) := by decide +kernel
set_option maxRecDepth 20000 in
theorem ggX2_init_X0_init : GoodIn wsX2_init wsX0_init := goodIn_r _ [19, 20, 2, 3, 21, 12, 22, 23, 24, 33, 34, 35, 36] (by decide +kernel) (by decide +kernel)
set_option maxRecDepth 20000 in
theorem gX2_init_X0_init : GoodIn wsX2_init (wsX0_init) := ggX2_init_X0_init
theorem dX2_init_0 : decode cX2_init 0 = .ok (.aload_n 0, 1) := by decide +kernel
theorem dX2_init_1 : decode cX2_init 1 = .ok (.invokespecial 3, 3) := by decide +kernel
theorem dX2_init_4 : decode cX2_init 4 = .ok (.aload_n 0, 1) := by decide +kernel
theorem dX2_init_5 : decode cX2_init 5 = .ok (.ldc 9, 2) := by decide +kernel
theorem dX2_init_7 : decode cX2_init 7 = .ok (.putfield 10, 3) := by decide +kernel
theorem dX2_init_10 : decode cX2_init 10 = .ok (.aload_n 0, 1) := by decide +kernel
theorem dX2_init_11 : decode cX2_init 11 = .ok (.iconst 0, 1) := by decide +kernel
theorem dX2_init_12 : decode cX2_init 12 = .ok (.putfield 16, 3) := by decide +kernel
theorem dX2_init_15 : decode cX2_init 15 = .ok (.aload_n 0, 1) := by decide +kernel
theorem dX2_init_16 : decode cX2_init 16 = .ok (.iconst 0, 1) := by decide +kernel
theorem dX2_init_17 : decode cX2_init 17 = .ok (.putfield 19, 3) := by decide +kernel
theorem dX2_init_20 : decode cX2_init 20 = .ok (.aload_n 0, 1) := by decide +kernel
theorem dX2_init_21 : decode cX2_init 21 = .ok (.new 22, 3) := by decide +kernel
theorem dX2_init_24 : decode cX2_init 24 = .ok (.dup, 1) := by decide +kernel
theorem dX2_init_25 : decode cX2_init 25 = .ok (.invokespecial 24, 3) := by decide +kernel
theorem dX2_init_28 : decode cX2_init 28 = .ok (.putfield 25, 3) := by decide +kernel
theorem dX2_init_31 : decode cX2_init 31 = .ok (.aload_n 0, 1) := by decide +kernel
theorem dX2_init_32 : decode cX2_init 32 = .ok (.sipush 256, 3) := by decide +kernel
theorem dX2_init_35 : decode cX2_init 35 = .ok (.newarray .int, 2) := by decide +kernel
theorem dX2_init_37 : decode cX2_init 37 = .ok (.putfield 29, 3) := by decide +kernel
theorem dX2_init_40 : decode cX2_init 40 = .ok (.aload_n 0, 1) := by decide +kernel
theorem dX2_init_41 : decode cX2_init 41 = .ok (.sipush 256, 3) := by decide +kernel
theorem dX2_init_44 : decode cX2_init 44 = .ok (.newarray .int, 2) := by decide +kernel
theorem dX2_init_46 : decode cX2_init 46 = .ok (.putfield 33, 3) := by decide +kernel
theorem dX2_init_49 : decode cX2_init 49 = .ok (.aload_n 0, 1) := by decide +kernel
theorem dX2_init_50 : decode cX2_init 50 = .ok (.bipush 16, 2) := by decide +kernel
theorem dX2_init_52 : decode cX2_init 52 = .ok (.newarray .int, 2) := by decide +kernel
theorem dX2_init_54 : decode cX2_init 54 = .ok (.putfield 36, 3) := by decide +kernel
theorem dX2_init_57 : decode cX2_init 57 = .ok (.aload_n 0, 1) := by decide +kernel
theorem dX2_init_58 : decode cX2_init 58 = .ok (.bipush 16, 2) := by decide +kernel
theorem dX2_init_60 : decode cX2_init 60 = .ok (.newarray .int, 2) := by decide +kernel
theorem dX2_init_62 : decode cX2_init 62 = .ok (.putfield 39, 3) := by decide +kernel
theorem dX2_init_65 : decode cX2_init 65 = .ok (.return_, 1) := by decide +kernel
set_option maxRecDepth 20000 in
theorem ggX2_run_X0_workOut : GoodIn wsX2_run wsX0_workOut := goodIn_r _ [11, 12, 13, 14, 15, 16, 17, 18, 19, 20, 21, 22, 23, 24, 10, 25, 26, 27, 28, 29, 79, 80, 81, 82, 71, 72, 73, 74, 75, 76, 77, 78] (by decide +kernel) (by decide +kernel)
set_option maxRecDepth 20000 in
theorem gX2_run_X0_workOut : GoodIn wsX2_run (wsV RX2 42 RX0 yX0_workOut wsX0_workOut) := goodIn_app (goodIn_of _ (by decide +kernel)) ggX2_run_X0_workOut
set_option maxRecDepth 20000 in
theorem ggX2_run_X2_readRow : GoodIn wsX2_run wsX2_readRow := goodIn_r _ [34, 35, 36, 37, 5, 6, 1, 38, 39, 2, 40, 41, 42, 43, 44, 63, 64, 65, 66, 67, 68, 69, 70, 71, 72, 73, 74, 75, 76, 77, 78, 79, 80, 81, 82] (by decide +kernel) (by decide +kernel)
set_option maxRecDepth 20000 in
theorem gX2_run_X2_readRow : GoodIn wsX2_run (wsV RX2 46 RX2 yX2_readRow wsX2_readRow) := goodIn_app (goodIn_of _ (by decide +kernel)) ggX2_run_X2_readRow
set_option maxRecDepth 20000 in
theorem ggX2_run_X1_gaugeAt : GoodIn wsX2_run wsX1_gaugeAt := goodIn_r _ [49, 50, 51, 52, 71, 72, 73, 74, 75, 76, 77, 78] (by decide +kernel) (by decide +kernel)
set_option maxRecDepth 20000 in
theorem gX2_run_X1_gaugeAt : GoodIn wsX2_run (wsV RX2 58 RX1 yX1_gaugeAt wsX1_gaugeAt) := goodIn_app (goodIn_of _ (by decide +kernel)) ggX2_run_X1_gaugeAt
set_option maxRecDepth 20000 in
theorem ggX2_run_X2_tryAt : GoodIn wsX2_run wsX2_tryAt := goodIn_r _ [56, 4, 57, 58, 59, 60, 61, 33, 62, 35, 37, 5, 6, 2, 39, 63, 64, 65, 66, 67, 68, 69, 70, 71, 72, 73, 74, 75, 76, 77, 78] (by decide +kernel) (by decide +kernel)
set_option maxRecDepth 20000 in
theorem gX2_run_X2_tryAt : GoodIn wsX2_run (wsV RX2 62 RX2 yX2_tryAt wsX2_tryAt) := goodIn_app (goodIn_of _ (by decide +kernel)) ggX2_run_X2_tryAt
theorem dX2_run_0 : decode cX2_run 0 = .ok (.aload_n 0, 1) := by decide +kernel
theorem dX2_run_1 : decode cX2_run 1 = .ok (.getfield 25, 3) := by decide +kernel
theorem dX2_run_4 : decode cX2_run 4 = .ok (.aload_n 1, 1) := by decide +kernel
theorem dX2_run_5 : decode cX2_run 5 = .ok (.iload_n 2, 1) := by decide +kernel
theorem dX2_run_6 : decode cX2_run 6 = .ok (.aload_n 0, 1) := by decide +kernel
theorem dX2_run_7 : decode cX2_run 7 = .ok (.getfield 29, 3) := by decide +kernel
theorem dX2_run_10 : decode cX2_run 10 = .ok (.invokevirtual 42, 3) := by decide +kernel
theorem dX2_run_13 : decode cX2_run 13 = .ok (.iconst 0, 1) := by decide +kernel
theorem dX2_run_14 : decode cX2_run 14 = .ok (.istore_n 3, 1) := by decide +kernel
theorem dX2_run_15 : decode cX2_run 15 = .ok (.iload_n 3, 1) := by decide +kernel
theorem dX2_run_16 : decode cX2_run 16 = .ok (.bipush 16, 2) := by decide +kernel
theorem dX2_run_18 : decode cX2_run 18 = .ok (.if_icmp .ge 15, 3) := by decide +kernel
theorem dX2_run_21 : decode cX2_run 21 = .ok (.aload_n 0, 1) := by decide +kernel
theorem dX2_run_22 : decode cX2_run 22 = .ok (.aload_n 1, 1) := by decide +kernel
theorem dX2_run_23 : decode cX2_run 23 = .ok (.iload_n 3, 1) := by decide +kernel
theorem dX2_run_24 : decode cX2_run 24 = .ok (.invokevirtual 46, 3) := by decide +kernel
theorem dX2_run_27 : decode cX2_run 27 = .ok (.iinc 3 1, 3) := by decide +kernel
theorem dX2_run_30 : decode cX2_run 30 = .ok (.goto (-15), 3) := by decide +kernel
theorem dX2_run_33 : decode cX2_run 33 = .ok (.aload_n 0, 1) := by decide +kernel
theorem dX2_run_34 : decode cX2_run 34 = .ok (.ldc 9, 2) := by decide +kernel
theorem dX2_run_36 : decode cX2_run 36 = .ok (.putfield 10, 3) := by decide +kernel
theorem dX2_run_39 : decode cX2_run 39 = .ok (.iconst 0, 1) := by decide +kernel
theorem dX2_run_40 : decode cX2_run 40 = .ok (.istore_n 3, 1) := by decide +kernel
theorem dX2_run_41 : decode cX2_run 41 = .ok (.iload_n 3, 1) := by decide +kernel
theorem dX2_run_42 : decode cX2_run 42 = .ok (.bipush 16, 2) := by decide +kernel
theorem dX2_run_44 : decode cX2_run 44 = .ok (.if_icmp .ge 53, 3) := by decide +kernel
theorem dX2_run_47 : decode cX2_run 47 = .ok (.aload_n 1, 1) := by decide +kernel
theorem dX2_run_48 : decode cX2_run 48 = .ok (.getfield 50, 3) := by decide +kernel
theorem dX2_run_51 : decode cX2_run 51 = .ok (.iload_n 3, 1) := by decide +kernel
theorem dX2_run_52 : decode cX2_run 52 = .ok (.iaload, 1) := by decide +kernel
theorem dX2_run_53 : decode cX2_run 53 = .ok (.istore 4, 2) := by decide +kernel
theorem dX2_run_55 : decode cX2_run 55 = .ok (.iload 4, 2) := by decide +kernel
theorem dX2_run_57 : decode cX2_run 57 = .ok (.aload_n 1, 1) := by decide +kernel
theorem dX2_run_58 : decode cX2_run 58 = .ok (.getfield 55, 3) := by decide +kernel
theorem dX2_run_61 : decode cX2_run 61 = .ok (.iload_n 3, 1) := by decide +kernel
theorem dX2_run_62 : decode cX2_run 62 = .ok (.iaload, 1) := by decide +kernel
theorem dX2_run_63 : decode cX2_run 63 = .ok (.if_icmp .gt 28, 3) := by decide +kernel
theorem dX2_run_66 : decode cX2_run 66 = .ok (.aload_n 1, 1) := by decide +kernel
theorem dX2_run_67 : decode cX2_run 67 = .ok (.iload 4, 2) := by decide +kernel
theorem dX2_run_69 : decode cX2_run 69 = .ok (.iload_n 3, 1) := by decide +kernel
theorem dX2_run_70 : decode cX2_run 70 = .ok (.invokevirtual 58, 3) := by decide +kernel
theorem dX2_run_73 : decode cX2_run 73 = .ok (.iconst (-1), 1) := by decide +kernel
theorem dX2_run_74 : decode cX2_run 74 = .ok (.if_icmp .ne 11, 3) := by decide +kernel
theorem dX2_run_77 : decode cX2_run 77 = .ok (.aload_n 0, 1) := by decide +kernel
theorem dX2_run_78 : decode cX2_run 78 = .ok (.aload_n 1, 1) := by decide +kernel
theorem dX2_run_79 : decode cX2_run 79 = .ok (.iload 4, 2) := by decide +kernel
theorem dX2_run_81 : decode cX2_run 81 = .ok (.iload_n 3, 1) := by decide +kernel
theorem dX2_run_82 : decode cX2_run 82 = .ok (.invokevirtual 62, 3) := by decide +kernel
theorem dX2_run_85 : decode cX2_run 85 = .ok (.iinc 4 1, 3) := by decide +kernel
theorem dX2_run_88 : decode cX2_run 88 = .ok (.goto (-33), 3) := by decide +kernel
theorem dX2_run_91 : decode cX2_run 91 = .ok (.iinc 3 1, 3) := by decide +kernel
theorem dX2_run_94 : decode cX2_run 94 = .ok (.goto (-53), 3) := by decide +kernel
theorem dX2_run_97 : decode cX2_run 97 = .ok (.return_, 1) := by decide +kernel
theorem dX2_readRow_0 : decode cX2_readRow 0 = .ok (.aload_n 0, 1) := by decide +kernel
theorem dX2_readRow_1 : decode cX2_readRow 1 = .ok (.getfield 36, 3) := by decide +kernel
theorem dX2_readRow_4 : decode cX2_readRow 4 = .ok (.iload_n 2, 1) := by decide +kernel
theorem dX2_readRow_5 : decode cX2_readRow 5 = .ok (.ldc 66, 2) := by decide +kernel
theorem dX2_readRow_7 : decode cX2_readRow 7 = .ok (.iastore, 1) := by decide +kernel
theorem dX2_readRow_8 : decode cX2_readRow 8 = .ok (.aload_n 0, 1) := by decide +kernel
theorem dX2_readRow_9 : decode cX2_readRow 9 = .ok (.getfield 39, 3) := by decide +kernel
theorem dX2_readRow_12 : decode cX2_readRow 12 = .ok (.iload_n 2, 1) := by decide +kernel
theorem dX2_readRow_13 : decode cX2_readRow 13 = .ok (.iconst 0, 1) := by decide +kernel
theorem dX2_readRow_14 : decode cX2_readRow 14 = .ok (.iastore, 1) := by decide +kernel
theorem dX2_readRow_15 : decode cX2_readRow 15 = .ok (.aload_n 1, 1) := by decide +kernel
theorem dX2_readRow_16 : decode cX2_readRow 16 = .ok (.getfield 50, 3) := by decide +kernel
theorem dX2_readRow_19 : decode cX2_readRow 19 = .ok (.iload_n 2, 1) := by decide +kernel
theorem dX2_readRow_20 : decode cX2_readRow 20 = .ok (.iaload, 1) := by decide +kernel
theorem dX2_readRow_21 : decode cX2_readRow 21 = .ok (.istore_n 3, 1) := by decide +kernel
theorem dX2_readRow_22 : decode cX2_readRow 22 = .ok (.iload_n 3, 1) := by decide +kernel
theorem dX2_readRow_23 : decode cX2_readRow 23 = .ok (.aload_n 1, 1) := by decide +kernel
theorem dX2_readRow_24 : decode cX2_readRow 24 = .ok (.getfield 55, 3) := by decide +kernel
theorem dX2_readRow_27 : decode cX2_readRow 27 = .ok (.iload_n 2, 1) := by decide +kernel
theorem dX2_readRow_28 : decode cX2_readRow 28 = .ok (.iaload, 1) := by decide +kernel
theorem dX2_readRow_29 : decode cX2_readRow 29 = .ok (.if_icmp .gt 99, 3) := by decide +kernel
theorem dX2_readRow_32 : decode cX2_readRow 32 = .ok (.iload_n 2, 1) := by decide +kernel
theorem dX2_readRow_33 : decode cX2_readRow 33 = .ok (.bipush 16, 2) := by decide +kernel
theorem dX2_readRow_35 : decode cX2_readRow 35 = .ok (.imul, 1) := by decide +kernel
theorem dX2_readRow_36 : decode cX2_readRow 36 = .ok (.iload_n 3, 1) := by decide +kernel
theorem dX2_readRow_37 : decode cX2_readRow 37 = .ok (.iadd, 1) := by decide +kernel
theorem dX2_readRow_38 : decode cX2_readRow 38 = .ok (.istore 4, 2) := by decide +kernel
theorem dX2_readRow_40 : decode cX2_readRow 40 = .ok (.aload_n 0, 1) := by decide +kernel
theorem dX2_readRow_41 : decode cX2_readRow 41 = .ok (.getfield 25, 3) := by decide +kernel
theorem dX2_readRow_44 : decode cX2_readRow 44 = .ok (.getfield 67, 3) := by decide +kernel
theorem dX2_readRow_47 : decode cX2_readRow 47 = .ok (.iload 4, 2) := by decide +kernel
theorem dX2_readRow_49 : decode cX2_readRow 49 = .ok (.iaload, 1) := by decide +kernel
theorem dX2_readRow_50 : decode cX2_readRow 50 = .ok (.istore 5, 2) := by decide +kernel
theorem dX2_readRow_52 : decode cX2_readRow 52 = .ok (.aload_n 0, 1) := by decide +kernel
theorem dX2_readRow_53 : decode cX2_readRow 53 = .ok (.getfield 33, 3) := by decide +kernel
theorem dX2_readRow_56 : decode cX2_readRow 56 = .ok (.iload 4, 2) := by decide +kernel
theorem dX2_readRow_58 : decode cX2_readRow 58 = .ok (.iload 5, 2) := by decide +kernel
theorem dX2_readRow_60 : decode cX2_readRow 60 = .ok (.iconst (-1), 1) := by decide +kernel
theorem dX2_readRow_61 : decode cX2_readRow 61 = .ok (.if_icmp .ne 7, 3) := by decide +kernel
theorem dX2_readRow_64 : decode cX2_readRow 64 = .ok (.iconst 0, 1) := by decide +kernel
theorem dX2_readRow_65 : decode cX2_readRow 65 = .ok (.goto 18, 3) := by decide +kernel
theorem dX2_readRow_68 : decode cX2_readRow 68 = .ok (.aload_n 0, 1) := by decide +kernel
theorem dX2_readRow_69 : decode cX2_readRow 69 = .ok (.getfield 29, 3) := by decide +kernel
theorem dX2_readRow_72 : decode cX2_readRow 72 = .ok (.iload 4, 2) := by decide +kernel
theorem dX2_readRow_74 : decode cX2_readRow 74 = .ok (.iaload, 1) := by decide +kernel
theorem dX2_readRow_75 : decode cX2_readRow 75 = .ok (.aload_n 1, 1) := by decide +kernel
theorem dX2_readRow_76 : decode cX2_readRow 76 = .ok (.getfield 70, 3) := by decide +kernel
theorem dX2_readRow_79 : decode cX2_readRow 79 = .ok (.iload 5, 2) := by decide +kernel
theorem dX2_readRow_81 : decode cX2_readRow 81 = .ok (.iaload, 1) := by decide +kernel
theorem dX2_readRow_82 : decode cX2_readRow 82 = .ok (.iadd, 1) := by decide +kernel
theorem dX2_readRow_83 : decode cX2_readRow 83 = .ok (.iastore, 1) := by decide +kernel
theorem dX2_readRow_84 : decode cX2_readRow 84 = .ok (.aload_n 0, 1) := by decide +kernel
theorem dX2_readRow_85 : decode cX2_readRow 85 = .ok (.getfield 36, 3) := by decide +kernel
theorem dX2_readRow_88 : decode cX2_readRow 88 = .ok (.iload_n 2, 1) := by decide +kernel
theorem dX2_readRow_89 : decode cX2_readRow 89 = .ok (.aload_n 0, 1) := by decide +kernel
theorem dX2_readRow_90 : decode cX2_readRow 90 = .ok (.getfield 36, 3) := by decide +kernel
theorem dX2_readRow_93 : decode cX2_readRow 93 = .ok (.iload_n 2, 1) := by decide +kernel
theorem dX2_readRow_94 : decode cX2_readRow 94 = .ok (.iaload, 1) := by decide +kernel
theorem dX2_readRow_95 : decode cX2_readRow 95 = .ok (.aload_n 0, 1) := by decide +kernel
theorem dX2_readRow_96 : decode cX2_readRow 96 = .ok (.getfield 29, 3) := by decide +kernel
theorem dX2_readRow_99 : decode cX2_readRow 99 = .ok (.iload 4, 2) := by decide +kernel
theorem dX2_readRow_101 : decode cX2_readRow 101 = .ok (.iaload, 1) := by decide +kernel
theorem dX2_readRow_102 : decode cX2_readRow 102 = .ok (.invokestatic 73, 3) := by decide +kernel
theorem dX2_readRow_105 : decode cX2_readRow 105 = .ok (.iastore, 1) := by decide +kernel
theorem dX2_readRow_106 : decode cX2_readRow 106 = .ok (.aload_n 0, 1) := by decide +kernel
theorem dX2_readRow_107 : decode cX2_readRow 107 = .ok (.getfield 39, 3) := by decide +kernel
theorem dX2_readRow_110 : decode cX2_readRow 110 = .ok (.iload_n 2, 1) := by decide +kernel
theorem dX2_readRow_111 : decode cX2_readRow 111 = .ok (.dup2, 1) := by decide +kernel
theorem dX2_readRow_112 : decode cX2_readRow 112 = .ok (.iaload, 1) := by decide +kernel
theorem dX2_readRow_113 : decode cX2_readRow 113 = .ok (.aload_n 0, 1) := by decide +kernel
theorem dX2_readRow_114 : decode cX2_readRow 114 = .ok (.getfield 33, 3) := by decide +kernel
theorem dX2_readRow_117 : decode cX2_readRow 117 = .ok (.iload 4, 2) := by decide +kernel
theorem dX2_readRow_119 : decode cX2_readRow 119 = .ok (.iaload, 1) := by decide +kernel
theorem dX2_readRow_120 : decode cX2_readRow 120 = .ok (.iadd, 1) := by decide +kernel
theorem dX2_readRow_121 : decode cX2_readRow 121 = .ok (.iastore, 1) := by decide +kernel
theorem dX2_readRow_122 : decode cX2_readRow 122 = .ok (.iinc 3 1, 3) := by decide +kernel
theorem dX2_readRow_125 : decode cX2_readRow 125 = .ok (.goto (-103), 3) := by decide +kernel
theorem dX2_readRow_128 : decode cX2_readRow 128 = .ok (.return_, 1) := by decide +kernel
set_option maxRecDepth 20000 in
theorem ggX2_tryAt_X2_farOfRow : GoodIn wsX2_tryAt wsX2_farOfRow := goodIn_r _ [8, 9, 10, 11, 12, 13, 14, 15, 16, 17, 18, 19, 20, 21, 22, 23, 24, 25, 26, 27, 28, 29, 30] (by decide +kernel) (by decide +kernel)
set_option maxRecDepth 20000 in
theorem gX2_tryAt_X2_farOfRow : GoodIn wsX2_tryAt (wsV RX2 78 RX2 yX2_farOfRow wsX2_farOfRow) := goodIn_app (goodIn_of _ (by decide +kernel)) ggX2_tryAt_X2_farOfRow
theorem dX2_tryAt_0 : decode cX2_tryAt 0 = .ok (.iconst 0, 1) := by decide +kernel
theorem dX2_tryAt_1 : decode cX2_tryAt 1 = .ok (.istore 4, 2) := by decide +kernel
theorem dX2_tryAt_3 : decode cX2_tryAt 3 = .ok (.iconst 0, 1) := by decide +kernel
theorem dX2_tryAt_4 : decode cX2_tryAt 4 = .ok (.istore 5, 2) := by decide +kernel
theorem dX2_tryAt_6 : decode cX2_tryAt 6 = .ok (.iload 5, 2) := by decide +kernel
theorem dX2_tryAt_8 : decode cX2_tryAt 8 = .ok (.bipush 16, 2) := by decide +kernel
theorem dX2_tryAt_10 : decode cX2_tryAt 10 = .ok (.if_icmp .ge 42, 3) := by decide +kernel
theorem dX2_tryAt_13 : decode cX2_tryAt 13 = .ok (.iload 4, 2) := by decide +kernel
theorem dX2_tryAt_15 : decode cX2_tryAt 15 = .ok (.aload_n 0, 1) := by decide +kernel
theorem dX2_tryAt_16 : decode cX2_tryAt 16 = .ok (.getfield 10, 3) := by decide +kernel
theorem dX2_tryAt_19 : decode cX2_tryAt 19 = .ok (.if_icmp .ge 33, 3) := by decide +kernel
theorem dX2_tryAt_22 : decode cX2_tryAt 22 = .ok (.iload 5, 2) := by decide +kernel
theorem dX2_tryAt_24 : decode cX2_tryAt 24 = .ok (.iload_n 3, 1) := by decide +kernel
theorem dX2_tryAt_25 : decode cX2_tryAt 25 = .ok (.isub, 1) := by decide +kernel
theorem dX2_tryAt_26 : decode cX2_tryAt 26 = .ok (.istore 6, 2) := by decide +kernel
theorem dX2_tryAt_28 : decode cX2_tryAt 28 = .ok (.iload 4, 2) := by decide +kernel
theorem dX2_tryAt_30 : decode cX2_tryAt 30 = .ok (.aload_n 0, 1) := by decide +kernel
theorem dX2_tryAt_31 : decode cX2_tryAt 31 = .ok (.aload_n 1, 1) := by decide +kernel
theorem dX2_tryAt_32 : decode cX2_tryAt 32 = .ok (.iload 5, 2) := by decide +kernel
theorem dX2_tryAt_34 : decode cX2_tryAt 34 = .ok (.iload_n 2, 1) := by decide +kernel
theorem dX2_tryAt_35 : decode cX2_tryAt 35 = .ok (.iload 6, 2) := by decide +kernel
theorem dX2_tryAt_37 : decode cX2_tryAt 37 = .ok (.iload 6, 2) := by decide +kernel
theorem dX2_tryAt_39 : decode cX2_tryAt 39 = .ok (.imul, 1) := by decide +kernel
theorem dX2_tryAt_40 : decode cX2_tryAt 40 = .ok (.invokevirtual 78, 3) := by decide +kernel
theorem dX2_tryAt_43 : decode cX2_tryAt 43 = .ok (.iadd, 1) := by decide +kernel
theorem dX2_tryAt_44 : decode cX2_tryAt 44 = .ok (.istore 4, 2) := by decide +kernel
theorem dX2_tryAt_46 : decode cX2_tryAt 46 = .ok (.iinc 5 1, 3) := by decide +kernel
theorem dX2_tryAt_49 : decode cX2_tryAt 49 = .ok (.goto (-43), 3) := by decide +kernel
theorem dX2_tryAt_52 : decode cX2_tryAt 52 = .ok (.iload 4, 2) := by decide +kernel
theorem dX2_tryAt_54 : decode cX2_tryAt 54 = .ok (.aload_n 0, 1) := by decide +kernel
theorem dX2_tryAt_55 : decode cX2_tryAt 55 = .ok (.getfield 10, 3) := by decide +kernel
theorem dX2_tryAt_58 : decode cX2_tryAt 58 = .ok (.if_icmp .ge 19, 3) := by decide +kernel
theorem dX2_tryAt_61 : decode cX2_tryAt 61 = .ok (.aload_n 0, 1) := by decide +kernel
theorem dX2_tryAt_62 : decode cX2_tryAt 62 = .ok (.iload 4, 2) := by decide +kernel
theorem dX2_tryAt_64 : decode cX2_tryAt 64 = .ok (.putfield 10, 3) := by decide +kernel
theorem dX2_tryAt_67 : decode cX2_tryAt 67 = .ok (.aload_n 0, 1) := by decide +kernel
theorem dX2_tryAt_68 : decode cX2_tryAt 68 = .ok (.iload_n 2, 1) := by decide +kernel
theorem dX2_tryAt_69 : decode cX2_tryAt 69 = .ok (.putfield 16, 3) := by decide +kernel
theorem dX2_tryAt_72 : decode cX2_tryAt 72 = .ok (.aload_n 0, 1) := by decide +kernel
theorem dX2_tryAt_73 : decode cX2_tryAt 73 = .ok (.iload_n 3, 1) := by decide +kernel
theorem dX2_tryAt_74 : decode cX2_tryAt 74 = .ok (.putfield 19, 3) := by decide +kernel
theorem dX2_tryAt_77 : decode cX2_tryAt 77 = .ok (.return_, 1) := by decide +kernel
theorem dX2_farOfRow_0 : decode cX2_farOfRow 0 = .ok (.iload 4, 2) := by decide +kernel
theorem dX2_farOfRow_2 : decode cX2_farOfRow 2 = .ok (.aload_n 0, 1) := by decide +kernel
theorem dX2_farOfRow_3 : decode cX2_farOfRow 3 = .ok (.getfield 36, 3) := by decide +kernel
theorem dX2_farOfRow_6 : decode cX2_farOfRow 6 = .ok (.iload_n 2, 1) := by decide +kernel
theorem dX2_farOfRow_7 : decode cX2_farOfRow 7 = .ok (.iaload, 1) := by decide +kernel
theorem dX2_farOfRow_8 : decode cX2_farOfRow 8 = .ok (.if_icmp .lt 10, 3) := by decide +kernel
theorem dX2_farOfRow_11 : decode cX2_farOfRow 11 = .ok (.aload_n 0, 1) := by decide +kernel
theorem dX2_farOfRow_12 : decode cX2_farOfRow 12 = .ok (.getfield 39, 3) := by decide +kernel
theorem dX2_farOfRow_15 : decode cX2_farOfRow 15 = .ok (.iload_n 2, 1) := by decide +kernel
theorem dX2_farOfRow_16 : decode cX2_farOfRow 16 = .ok (.iaload, 1) := by decide +kernel
theorem dX2_farOfRow_17 : decode cX2_farOfRow 17 = .ok (.ireturn, 1) := by decide +kernel
theorem dX2_farOfRow_18 : decode cX2_farOfRow 18 = .ok (.iconst 0, 1) := by decide +kernel
theorem dX2_farOfRow_19 : decode cX2_farOfRow 19 = .ok (.istore 5, 2) := by decide +kernel
theorem dX2_farOfRow_21 : decode cX2_farOfRow 21 = .ok (.aload_n 1, 1) := by decide +kernel
theorem dX2_farOfRow_22 : decode cX2_farOfRow 22 = .ok (.getfield 50, 3) := by decide +kernel
theorem dX2_farOfRow_25 : decode cX2_farOfRow 25 = .ok (.iload_n 2, 1) := by decide +kernel
theorem dX2_farOfRow_26 : decode cX2_farOfRow 26 = .ok (.iaload, 1) := by decide +kernel
theorem dX2_farOfRow_27 : decode cX2_farOfRow 27 = .ok (.istore 6, 2) := by decide +kernel
theorem dX2_farOfRow_29 : decode cX2_farOfRow 29 = .ok (.iload 6, 2) := by decide +kernel
theorem dX2_farOfRow_31 : decode cX2_farOfRow 31 = .ok (.aload_n 1, 1) := by decide +kernel
theorem dX2_farOfRow_32 : decode cX2_farOfRow 32 = .ok (.getfield 55, 3) := by decide +kernel
theorem dX2_farOfRow_35 : decode cX2_farOfRow 35 = .ok (.iload_n 2, 1) := by decide +kernel
theorem dX2_farOfRow_36 : decode cX2_farOfRow 36 = .ok (.iaload, 1) := by decide +kernel
theorem dX2_farOfRow_37 : decode cX2_farOfRow 37 = .ok (.if_icmp .gt 63, 3) := by decide +kernel
theorem dX2_farOfRow_40 : decode cX2_farOfRow 40 = .ok (.iload_n 2, 1) := by decide +kernel
theorem dX2_farOfRow_41 : decode cX2_farOfRow 41 = .ok (.bipush 16, 2) := by decide +kernel
theorem dX2_farOfRow_43 : decode cX2_farOfRow 43 = .ok (.imul, 1) := by decide +kernel
theorem dX2_farOfRow_44 : decode cX2_farOfRow 44 = .ok (.iload 6, 2) := by decide +kernel
theorem dX2_farOfRow_46 : decode cX2_farOfRow 46 = .ok (.iadd, 1) := by decide +kernel
theorem dX2_farOfRow_47 : decode cX2_farOfRow 47 = .ok (.istore 7, 2) := by decide +kernel
theorem dX2_farOfRow_49 : decode cX2_farOfRow 49 = .ok (.iload 6, 2) := by decide +kernel
theorem dX2_farOfRow_51 : decode cX2_farOfRow 51 = .ok (.iload_n 3, 1) := by decide +kernel
theorem dX2_farOfRow_52 : decode cX2_farOfRow 52 = .ok (.isub, 1) := by decide +kernel
theorem dX2_farOfRow_53 : decode cX2_farOfRow 53 = .ok (.istore 8, 2) := by decide +kernel
theorem dX2_farOfRow_55 : decode cX2_farOfRow 55 = .ok (.iload 8, 2) := by decide +kernel
theorem dX2_farOfRow_57 : decode cX2_farOfRow 57 = .ok (.iload 8, 2) := by decide +kernel
theorem dX2_farOfRow_59 : decode cX2_farOfRow 59 = .ok (.imul, 1) := by decide +kernel
theorem dX2_farOfRow_60 : decode cX2_farOfRow 60 = .ok (.iload 4, 2) := by decide +kernel
theorem dX2_farOfRow_62 : decode cX2_farOfRow 62 = .ok (.iadd, 1) := by decide +kernel
theorem dX2_farOfRow_63 : decode cX2_farOfRow 63 = .ok (.istore 9, 2) := by decide +kernel
theorem dX2_farOfRow_65 : decode cX2_farOfRow 65 = .ok (.iload 5, 2) := by decide +kernel
theorem dX2_farOfRow_67 : decode cX2_farOfRow 67 = .ok (.iload 9, 2) := by decide +kernel
theorem dX2_farOfRow_69 : decode cX2_farOfRow 69 = .ok (.aload_n 0, 1) := by decide +kernel
theorem dX2_farOfRow_70 : decode cX2_farOfRow 70 = .ok (.getfield 29, 3) := by decide +kernel
theorem dX2_farOfRow_73 : decode cX2_farOfRow 73 = .ok (.iload 7, 2) := by decide +kernel
theorem dX2_farOfRow_75 : decode cX2_farOfRow 75 = .ok (.iaload, 1) := by decide +kernel
theorem dX2_farOfRow_76 : decode cX2_farOfRow 76 = .ok (.if_icmp .ge 8, 3) := by decide +kernel
theorem dX2_farOfRow_79 : decode cX2_farOfRow 79 = .ok (.iload 9, 2) := by decide +kernel
theorem dX2_farOfRow_81 : decode cX2_farOfRow 81 = .ok (.goto 10, 3) := by decide +kernel
theorem dX2_farOfRow_84 : decode cX2_farOfRow 84 = .ok (.aload_n 0, 1) := by decide +kernel
theorem dX2_farOfRow_85 : decode cX2_farOfRow 85 = .ok (.getfield 33, 3) := by decide +kernel
theorem dX2_farOfRow_88 : decode cX2_farOfRow 88 = .ok (.iload 7, 2) := by decide +kernel
theorem dX2_farOfRow_90 : decode cX2_farOfRow 90 = .ok (.iaload, 1) := by decide +kernel
theorem dX2_farOfRow_91 : decode cX2_farOfRow 91 = .ok (.iadd, 1) := by decide +kernel
theorem dX2_farOfRow_92 : decode cX2_farOfRow 92 = .ok (.istore 5, 2) := by decide +kernel
theorem dX2_farOfRow_94 : decode cX2_farOfRow 94 = .ok (.iinc 6 1, 3) := by decide +kernel
theorem dX2_farOfRow_97 : decode cX2_farOfRow 97 = .ok (.goto (-68), 3) := by decide +kernel
theorem dX2_farOfRow_100 : decode cX2_farOfRow 100 = .ok (.iload 5, 2) := by decide +kernel
theorem dX2_farOfRow_102 : decode cX2_farOfRow 102 = .ok (.ireturn, 1) := by decide +kernel
set_option maxRecDepth 20000 in
theorem ggX3_init_X0_init : GoodIn wsX3_init wsX0_init := goodIn_r _ [17, 18, 2, 3, 19, 13, 20, 21, 22, 30, 31, 32, 33] (by decide +kernel) (by decide +kernel)
set_option maxRecDepth 20000 in
theorem gX3_init_X0_init : GoodIn wsX3_init (wsX0_init) := ggX3_init_X0_init
theorem dX3_init_0 : decode cX3_init 0 = .ok (.aload_n 0, 1) := by decide +kernel
theorem dX3_init_1 : decode cX3_init 1 = .ok (.invokespecial 3, 3) := by decide +kernel
theorem dX3_init_4 : decode cX3_init 4 = .ok (.aload_n 0, 1) := by decide +kernel
theorem dX3_init_5 : decode cX3_init 5 = .ok (.bipush 6, 2) := by decide +kernel
theorem dX3_init_7 : decode cX3_init 7 = .ok (.anewarray 9, 3) := by decide +kernel
theorem dX3_init_10 : decode cX3_init 10 = .ok (.putfield 11, 3) := by decide +kernel
theorem dX3_init_13 : decode cX3_init 13 = .ok (.aload_n 0, 1) := by decide +kernel
theorem dX3_init_14 : decode cX3_init 14 = .ok (.iconst 0, 1) := by decide +kernel
theorem dX3_init_15 : decode cX3_init 15 = .ok (.putfield 17, 3) := by decide +kernel
theorem dX3_init_18 : decode cX3_init 18 = .ok (.aload_n 0, 1) := by decide +kernel
theorem dX3_init_19 : decode cX3_init 19 = .ok (.iconst 0, 1) := by decide +kernel
theorem dX3_init_20 : decode cX3_init 20 = .ok (.putfield 21, 3) := by decide +kernel
theorem dX3_init_23 : decode cX3_init 23 = .ok (.aload_n 0, 1) := by decide +kernel
theorem dX3_init_24 : decode cX3_init 24 = .ok (.iconst 0, 1) := by decide +kernel
theorem dX3_init_25 : decode cX3_init 25 = .ok (.putfield 24, 3) := by decide +kernel
theorem dX3_init_28 : decode cX3_init 28 = .ok (.aload_n 0, 1) := by decide +kernel
theorem dX3_init_29 : decode cX3_init 29 = .ok (.iconst 0, 1) := by decide +kernel
theorem dX3_init_30 : decode cX3_init 30 = .ok (.putfield 27, 3) := by decide +kernel
theorem dX3_init_33 : decode cX3_init 33 = .ok (.aload_n 0, 1) := by decide +kernel
theorem dX3_init_34 : decode cX3_init 34 = .ok (.new 9, 3) := by decide +kernel
theorem dX3_init_37 : decode cX3_init 37 = .ok (.dup, 1) := by decide +kernel
theorem dX3_init_38 : decode cX3_init 38 = .ok (.invokespecial 30, 3) := by decide +kernel
theorem dX3_init_41 : decode cX3_init 41 = .ok (.putfield 31, 3) := by decide +kernel
theorem dX3_init_44 : decode cX3_init 44 = .ok (.aload_n 0, 1) := by decide +kernel
theorem dX3_init_45 : decode cX3_init 45 = .ok (.sipush 256, 3) := by decide +kernel
theorem dX3_init_48 : decode cX3_init 48 = .ok (.newarray .int, 2) := by decide +kernel
theorem dX3_init_50 : decode cX3_init 50 = .ok (.putfield 35, 3) := by decide +kernel
theorem dX3_init_53 : decode cX3_init 53 = .ok (.iconst 0, 1) := by decide +kernel
theorem dX3_init_54 : decode cX3_init 54 = .ok (.istore_n 1, 1) := by decide +kernel
theorem dX3_init_55 : decode cX3_init 55 = .ok (.iload_n 1, 1) := by decide +kernel
theorem dX3_init_56 : decode cX3_init 56 = .ok (.bipush 6, 2) := by decide +kernel
theorem dX3_init_58 : decode cX3_init 58 = .ok (.if_icmp .ge 22, 3) := by decide +kernel
theorem dX3_init_61 : decode cX3_init 61 = .ok (.aload_n 0, 1) := by decide +kernel
theorem dX3_init_62 : decode cX3_init 62 = .ok (.getfield 11, 3) := by decide +kernel
theorem dX3_init_65 : decode cX3_init 65 = .ok (.iload_n 1, 1) := by decide +kernel
theorem dX3_init_66 : decode cX3_init 66 = .ok (.new 9, 3) := by decide +kernel
theorem dX3_init_69 : decode cX3_init 69 = .ok (.dup, 1) := by decide +kernel
theorem dX3_init_70 : decode cX3_init 70 = .ok (.invokespecial 30, 3) := by decide +kernel
theorem dX3_init_73 : decode cX3_init 73 = .ok (.aastore, 1) := by decide +kernel
theorem dX3_init_74 : decode cX3_init 74 = .ok (.iinc 1 1, 3) := by decide +kernel
theorem dX3_init_77 : decode cX3_init 77 = .ok (.goto (-22), 3) := by decide +kernel
theorem dX3_init_80 : decode cX3_init 80 = .ok (.return_, 1) := by decide +kernel
theorem dX3_letAllGo_0 : decode cX3_letAllGo 0 = .ok (.aload_n 0, 1) := by decide +kernel
theorem dX3_letAllGo_1 : decode cX3_letAllGo 1 = .ok (.iconst 0, 1) := by decide +kernel
theorem dX3_letAllGo_2 : decode cX3_letAllGo 2 = .ok (.putfield 17, 3) := by decide +kernel
theorem dX3_letAllGo_5 : decode cX3_letAllGo 5 = .ok (.return_, 1) := by decide +kernel
set_option maxRecDepth 20000 in
theorem ggX3_lookUp_X3_putLast : GoodIn wsX3_lookUp wsX3_putLast := goodIn_r _ [11, 2, 1, 40, 41, 42, 43, 44, 45, 46] (by decide +kernel) (by decide +kernel)
set_option maxRecDepth 20000 in
theorem gX3_lookUp_X3_putLast : GoodIn wsX3_lookUp (wsV RX3 42 RX3 yX3_putLast wsX3_putLast) := goodIn_app (goodIn_of _ (by decide +kernel)) ggX3_lookUp_X3_putLast
set_option maxRecDepth 20000 in
theorem ggX3_lookUp_X3_room : GoodIn wsX3_lookUp wsX3_room := goodIn_r _ [15, 1, 2, 16, 7, 8, 9, 10, 11, 40, 41, 42, 43, 44, 45, 46] (by decide +kernel) (by decide +kernel)
set_option maxRecDepth 20000 in
theorem gX3_lookUp_X3_room : GoodIn wsX3_lookUp (wsV RX3 46 RX3 yX3_room wsX3_room) := goodIn_app (goodIn_of _ (by decide +kernel)) ggX3_lookUp_X3_room
set_option maxRecDepth 20000 in
theorem ggX3_lookUp_X0_workOut : GoodIn wsX3_lookUp wsX0_workOut := goodIn_r _ [21, 22, 23, 24, 25, 26, 27, 28, 29, 30, 31, 32, 33, 34, 20, 35, 36, 37, 38, 39, 47, 48, 49, 50, 51, 52, 53, 54, 55, 56, 57, 58] (by decide +kernel) (by decide +kernel)
set_option maxRecDepth 20000 in
theorem gX3_lookUp_X0_workOut : GoodIn wsX3_lookUp (wsV RX3 50 RX0 yX0_workOut wsX0_workOut) := goodIn_app (goodIn_of _ (by decide +kernel)) ggX3_lookUp_X0_workOut
theorem dX3_lookUp_0 : decode cX3_lookUp 0 = .ok (.iconst 0, 1) := by decide +kernel
theorem dX3_lookUp_1 : decode cX3_lookUp 1 = .ok (.istore_n 3, 1) := by decide +kernel
theorem dX3_lookUp_2 : decode cX3_lookUp 2 = .ok (.iload_n 3, 1) := by decide +kernel
theorem dX3_lookUp_3 : decode cX3_lookUp 3 = .ok (.aload_n 0, 1) := by decide +kernel
theorem dX3_lookUp_4 : decode cX3_lookUp 4 = .ok (.getfield 17, 3) := by decide +kernel
theorem dX3_lookUp_7 : decode cX3_lookUp 7 = .ok (.if_icmp .ge 38, 3) := by decide +kernel
theorem dX3_lookUp_10 : decode cX3_lookUp 10 = .ok (.aload_n 0, 1) := by decide +kernel
theorem dX3_lookUp_11 : decode cX3_lookUp 11 = .ok (.getfield 11, 3) := by decide +kernel
theorem dX3_lookUp_14 : decode cX3_lookUp 14 = .ok (.iload_n 3, 1) := by decide +kernel
theorem dX3_lookUp_15 : decode cX3_lookUp 15 = .ok (.aaload, 1) := by decide +kernel
theorem dX3_lookUp_16 : decode cX3_lookUp 16 = .ok (.getfield 39, 3) := by decide +kernel
theorem dX3_lookUp_19 : decode cX3_lookUp 19 = .ok (.iload_n 2, 1) := by decide +kernel
theorem dX3_lookUp_20 : decode cX3_lookUp 20 = .ok (.if_icmp .ne 19, 3) := by decide +kernel
theorem dX3_lookUp_23 : decode cX3_lookUp 23 = .ok (.aload_n 0, 1) := by decide +kernel
theorem dX3_lookUp_24 : decode cX3_lookUp 24 = .ok (.dup, 1) := by decide +kernel
theorem dX3_lookUp_25 : decode cX3_lookUp 25 = .ok (.getfield 21, 3) := by decide +kernel
theorem dX3_lookUp_28 : decode cX3_lookUp 28 = .ok (.iconst 1, 1) := by decide +kernel
theorem dX3_lookUp_29 : decode cX3_lookUp 29 = .ok (.iadd, 1) := by decide +kernel
theorem dX3_lookUp_30 : decode cX3_lookUp 30 = .ok (.putfield 21, 3) := by decide +kernel
theorem dX3_lookUp_33 : decode cX3_lookUp 33 = .ok (.aload_n 0, 1) := by decide +kernel
theorem dX3_lookUp_34 : decode cX3_lookUp 34 = .ok (.iload_n 3, 1) := by decide +kernel
theorem dX3_lookUp_35 : decode cX3_lookUp 35 = .ok (.invokevirtual 42, 3) := by decide +kernel
theorem dX3_lookUp_38 : decode cX3_lookUp 38 = .ok (.areturn, 1) := by decide +kernel
theorem dX3_lookUp_39 : decode cX3_lookUp 39 = .ok (.iinc 3 1, 3) := by decide +kernel
theorem dX3_lookUp_42 : decode cX3_lookUp 42 = .ok (.goto (-40), 3) := by decide +kernel
theorem dX3_lookUp_45 : decode cX3_lookUp 45 = .ok (.aload_n 0, 1) := by decide +kernel
theorem dX3_lookUp_46 : decode cX3_lookUp 46 = .ok (.dup, 1) := by decide +kernel
theorem dX3_lookUp_47 : decode cX3_lookUp 47 = .ok (.getfield 24, 3) := by decide +kernel
theorem dX3_lookUp_50 : decode cX3_lookUp 50 = .ok (.iconst 1, 1) := by decide +kernel
theorem dX3_lookUp_51 : decode cX3_lookUp 51 = .ok (.iadd, 1) := by decide +kernel
theorem dX3_lookUp_52 : decode cX3_lookUp 52 = .ok (.putfield 24, 3) := by decide +kernel
theorem dX3_lookUp_55 : decode cX3_lookUp 55 = .ok (.aload_n 0, 1) := by decide +kernel
theorem dX3_lookUp_56 : decode cX3_lookUp 56 = .ok (.invokevirtual 46, 3) := by decide +kernel
theorem dX3_lookUp_59 : decode cX3_lookUp 59 = .ok (.astore_n 3, 1) := by decide +kernel
theorem dX3_lookUp_60 : decode cX3_lookUp 60 = .ok (.aload_n 3, 1) := by decide +kernel
theorem dX3_lookUp_61 : decode cX3_lookUp 61 = .ok (.aload_n 1, 1) := by decide +kernel
theorem dX3_lookUp_62 : decode cX3_lookUp 62 = .ok (.iload_n 2, 1) := by decide +kernel
theorem dX3_lookUp_63 : decode cX3_lookUp 63 = .ok (.aload_n 0, 1) := by decide +kernel
theorem dX3_lookUp_64 : decode cX3_lookUp 64 = .ok (.getfield 35, 3) := by decide +kernel
theorem dX3_lookUp_67 : decode cX3_lookUp 67 = .ok (.invokevirtual 50, 3) := by decide +kernel
theorem dX3_lookUp_70 : decode cX3_lookUp 70 = .ok (.aload_n 3, 1) := by decide +kernel
theorem dX3_lookUp_71 : decode cX3_lookUp 71 = .ok (.areturn, 1) := by decide +kernel
set_option maxRecDepth 20000 in
theorem ggX3_room_X3_putLast : GoodIn wsX3_room wsX3_putLast := goodIn_r _ [8, 2, 1, 9, 10, 11, 12, 13, 14, 15] (by decide +kernel) (by decide +kernel)
set_option maxRecDepth 20000 in
theorem gX3_room_X3_putLast : GoodIn wsX3_room (wsV RX3 42 RX3 yX3_putLast wsX3_putLast) := goodIn_app (goodIn_of _ (by decide +kernel)) ggX3_room_X3_putLast
theorem dX3_room_0 : decode cX3_room 0 = .ok (.aload_n 0, 1) := by decide +kernel
theorem dX3_room_1 : decode cX3_room 1 = .ok (.getfield 17, 3) := by decide +kernel
theorem dX3_room_4 : decode cX3_room 4 = .ok (.bipush 6, 2) := by decide +kernel
theorem dX3_room_6 : decode cX3_room 6 = .ok (.if_icmp .ge 25, 3) := by decide +kernel
theorem dX3_room_9 : decode cX3_room 9 = .ok (.aload_n 0, 1) := by decide +kernel
theorem dX3_room_10 : decode cX3_room 10 = .ok (.dup, 1) := by decide +kernel
theorem dX3_room_11 : decode cX3_room 11 = .ok (.getfield 17, 3) := by decide +kernel
theorem dX3_room_14 : decode cX3_room 14 = .ok (.iconst 1, 1) := by decide +kernel
theorem dX3_room_15 : decode cX3_room 15 = .ok (.iadd, 1) := by decide +kernel
theorem dX3_room_16 : decode cX3_room 16 = .ok (.putfield 17, 3) := by decide +kernel
theorem dX3_room_19 : decode cX3_room 19 = .ok (.aload_n 0, 1) := by decide +kernel
theorem dX3_room_20 : decode cX3_room 20 = .ok (.getfield 11, 3) := by decide +kernel
theorem dX3_room_23 : decode cX3_room 23 = .ok (.aload_n 0, 1) := by decide +kernel
theorem dX3_room_24 : decode cX3_room 24 = .ok (.getfield 17, 3) := by decide +kernel
theorem dX3_room_27 : decode cX3_room 27 = .ok (.iconst 1, 1) := by decide +kernel
theorem dX3_room_28 : decode cX3_room 28 = .ok (.isub, 1) := by decide +kernel
theorem dX3_room_29 : decode cX3_room 29 = .ok (.aaload, 1) := by decide +kernel
theorem dX3_room_30 : decode cX3_room 30 = .ok (.areturn, 1) := by decide +kernel
theorem dX3_room_31 : decode cX3_room 31 = .ok (.aload_n 0, 1) := by decide +kernel
theorem dX3_room_32 : decode cX3_room 32 = .ok (.dup, 1) := by decide +kernel
theorem dX3_room_33 : decode cX3_room 33 = .ok (.getfield 27, 3) := by decide +kernel
theorem dX3_room_36 : decode cX3_room 36 = .ok (.iconst 1, 1) := by decide +kernel
theorem dX3_room_37 : decode cX3_room 37 = .ok (.iadd, 1) := by decide +kernel
theorem dX3_room_38 : decode cX3_room 38 = .ok (.putfield 27, 3) := by decide +kernel
theorem dX3_room_41 : decode cX3_room 41 = .ok (.aload_n 0, 1) := by decide +kernel
theorem dX3_room_42 : decode cX3_room 42 = .ok (.iconst 0, 1) := by decide +kernel
theorem dX3_room_43 : decode cX3_room 43 = .ok (.invokevirtual 42, 3) := by decide +kernel
theorem dX3_room_46 : decode cX3_room 46 = .ok (.areturn, 1) := by decide +kernel
theorem dX3_putLast_0 : decode cX3_putLast 0 = .ok (.aload_n 0, 1) := by decide +kernel
theorem dX3_putLast_1 : decode cX3_putLast 1 = .ok (.getfield 11, 3) := by decide +kernel
theorem dX3_putLast_4 : decode cX3_putLast 4 = .ok (.iload_n 1, 1) := by decide +kernel
theorem dX3_putLast_5 : decode cX3_putLast 5 = .ok (.aaload, 1) := by decide +kernel
theorem dX3_putLast_6 : decode cX3_putLast 6 = .ok (.astore_n 2, 1) := by decide +kernel
theorem dX3_putLast_7 : decode cX3_putLast 7 = .ok (.iload_n 1, 1) := by decide +kernel
theorem dX3_putLast_8 : decode cX3_putLast 8 = .ok (.istore_n 3, 1) := by decide +kernel
theorem dX3_putLast_9 : decode cX3_putLast 9 = .ok (.iload_n 3, 1) := by decide +kernel
theorem dX3_putLast_10 : decode cX3_putLast 10 = .ok (.aload_n 0, 1) := by decide +kernel
theorem dX3_putLast_11 : decode cX3_putLast 11 = .ok (.getfield 17, 3) := by decide +kernel
theorem dX3_putLast_14 : decode cX3_putLast 14 = .ok (.iconst 1, 1) := by decide +kernel
theorem dX3_putLast_15 : decode cX3_putLast 15 = .ok (.isub, 1) := by decide +kernel
theorem dX3_putLast_16 : decode cX3_putLast 16 = .ok (.if_icmp .ge 23, 3) := by decide +kernel
theorem dX3_putLast_19 : decode cX3_putLast 19 = .ok (.aload_n 0, 1) := by decide +kernel
theorem dX3_putLast_20 : decode cX3_putLast 20 = .ok (.getfield 11, 3) := by decide +kernel
theorem dX3_putLast_23 : decode cX3_putLast 23 = .ok (.iload_n 3, 1) := by decide +kernel
theorem dX3_putLast_24 : decode cX3_putLast 24 = .ok (.aload_n 0, 1) := by decide +kernel
theorem dX3_putLast_25 : decode cX3_putLast 25 = .ok (.getfield 11, 3) := by decide +kernel
theorem dX3_putLast_28 : decode cX3_putLast 28 = .ok (.iload_n 3, 1) := by decide +kernel
theorem dX3_putLast_29 : decode cX3_putLast 29 = .ok (.iconst 1, 1) := by decide +kernel
theorem dX3_putLast_30 : decode cX3_putLast 30 = .ok (.iadd, 1) := by decide +kernel
theorem dX3_putLast_31 : decode cX3_putLast 31 = .ok (.aaload, 1) := by decide +kernel
theorem dX3_putLast_32 : decode cX3_putLast 32 = .ok (.aastore, 1) := by decide +kernel
theorem dX3_putLast_33 : decode cX3_putLast 33 = .ok (.iinc 3 1, 3) := by decide +kernel
theorem dX3_putLast_36 : decode cX3_putLast 36 = .ok (.goto (-27), 3) := by decide +kernel
theorem dX3_putLast_39 : decode cX3_putLast 39 = .ok (.aload_n 0, 1) := by decide +kernel
theorem dX3_putLast_40 : decode cX3_putLast 40 = .ok (.getfield 11, 3) := by decide +kernel
theorem dX3_putLast_43 : decode cX3_putLast 43 = .ok (.aload_n 0, 1) := by decide +kernel
theorem dX3_putLast_44 : decode cX3_putLast 44 = .ok (.getfield 17, 3) := by decide +kernel
theorem dX3_putLast_47 : decode cX3_putLast 47 = .ok (.iconst 1, 1) := by decide +kernel
theorem dX3_putLast_48 : decode cX3_putLast 48 = .ok (.isub, 1) := by decide +kernel
theorem dX3_putLast_49 : decode cX3_putLast 49 = .ok (.aload_n 2, 1) := by decide +kernel
theorem dX3_putLast_50 : decode cX3_putLast 50 = .ok (.aastore, 1) := by decide +kernel
theorem dX3_putLast_51 : decode cX3_putLast 51 = .ok (.aload_n 2, 1) := by decide +kernel
theorem dX3_putLast_52 : decode cX3_putLast 52 = .ok (.areturn, 1) := by decide +kernel
set_option maxRecDepth 20000 in
theorem ggX4_init_X1_init : GoodIn wsX4_init wsX1_init := goodIn_r _ [20, 21, 2, 3, 22, 23, 24, 25, 26, 27, 28, 29, 30, 31, 68, 69, 70, 71, 72, 73, 74, 75] (by decide +kernel) (by decide +kernel)
set_option maxRecDepth 20000 in
theorem gX4_init_X1_init : GoodIn wsX4_init (wsX1_init) := ggX4_init_X1_init
set_option maxRecDepth 20000 in
theorem ggX4_init_X3_init : GoodIn wsX4_init wsX3_init := goodIn_r _ [34, 35, 2, 3, 36, 37, 38, 39, 40, 41, 42, 43, 44, 22, 45, 46, 47, 48, 49, 50, 51, 52, 53, 81, 82, 83, 84, 85, 86, 87, 96, 97, 98, 99] (by decide +kernel) (by decide +kernel)
set_option maxRecDepth 20000 in
theorem gX4_init_X3_init : GoodIn wsX4_init (wsX3_init) := ggX4_init_X3_init
set_option maxRecDepth 20000 in
theorem ggX4_init_X2_init : GoodIn wsX4_init wsX2_init := goodIn_r _ [55, 56, 2, 3, 57, 58, 59, 60, 61, 42, 43, 62, 22, 63, 64, 65, 66, 67, 47, 48, 49, 50, 51, 52, 53, 88, 89, 90, 91, 92, 93, 94, 95, 96, 97, 98, 99] (by decide +kernel) (by decide +kernel)
set_option maxRecDepth 20000 in
theorem gX4_init_X2_init_n33 : GoodIn wsX4_init (wsX2_init) := ggX4_init_X2_init
theorem dX4_init_0 : decode cX4_init 0 = .ok (.aload_n 0, 1) := by decide +kernel
theorem dX4_init_1 : decode cX4_init 1 = .ok (.invokespecial 3, 3) := by decide +kernel
theorem dX4_init_4 : decode cX4_init 4 = .ok (.aload_n 0, 1) := by decide +kernel
theorem dX4_init_5 : decode cX4_init 5 = .ok (.new 9, 3) := by decide +kernel
theorem dX4_init_8 : decode cX4_init 8 = .ok (.dup, 1) := by decide +kernel
theorem dX4_init_9 : decode cX4_init 9 = .ok (.invokespecial 11, 3) := by decide +kernel
theorem dX4_init_12 : decode cX4_init 12 = .ok (.putfield 12, 3) := by decide +kernel
theorem dX4_init_15 : decode cX4_init 15 = .ok (.aload_n 0, 1) := by decide +kernel
theorem dX4_init_16 : decode cX4_init 16 = .ok (.iconst 2, 1) := by decide +kernel
theorem dX4_init_17 : decode cX4_init 17 = .ok (.anewarray 9, 3) := by decide +kernel
theorem dX4_init_20 : decode cX4_init 20 = .ok (.putfield 16, 3) := by decide +kernel
theorem dX4_init_23 : decode cX4_init 23 = .ok (.iconst 0, 1) := by decide +kernel
theorem dX4_init_24 : decode cX4_init 24 = .ok (.istore_n 1, 1) := by decide +kernel
theorem dX4_init_25 : decode cX4_init 25 = .ok (.iload_n 1, 1) := by decide +kernel
theorem dX4_init_26 : decode cX4_init 26 = .ok (.iconst 2, 1) := by decide +kernel
theorem dX4_init_27 : decode cX4_init 27 = .ok (.if_icmp .ge 22, 3) := by decide +kernel
theorem dX4_init_30 : decode cX4_init 30 = .ok (.aload_n 0, 1) := by decide +kernel
theorem dX4_init_31 : decode cX4_init 31 = .ok (.getfield 16, 3) := by decide +kernel
theorem dX4_init_34 : decode cX4_init 34 = .ok (.iload_n 1, 1) := by decide +kernel
theorem dX4_init_35 : decode cX4_init 35 = .ok (.new 9, 3) := by decide +kernel
theorem dX4_init_38 : decode cX4_init 38 = .ok (.dup, 1) := by decide +kernel
theorem dX4_init_39 : decode cX4_init 39 = .ok (.invokespecial 11, 3) := by decide +kernel
theorem dX4_init_42 : decode cX4_init 42 = .ok (.aastore, 1) := by decide +kernel
theorem dX4_init_43 : decode cX4_init 43 = .ok (.iinc 1 1, 3) := by decide +kernel
theorem dX4_init_46 : decode cX4_init 46 = .ok (.goto (-21), 3) := by decide +kernel
theorem dX4_init_49 : decode cX4_init 49 = .ok (.aload_n 0, 1) := by decide +kernel
theorem dX4_init_50 : decode cX4_init 50 = .ok (.iconst 0, 1) := by decide +kernel
theorem dX4_init_51 : decode cX4_init 51 = .ok (.putfield 20, 3) := by decide +kernel
theorem dX4_init_54 : decode cX4_init 54 = .ok (.aload_n 0, 1) := by decide +kernel
theorem dX4_init_55 : decode cX4_init 55 = .ok (.new 24, 3) := by decide +kernel
theorem dX4_init_58 : decode cX4_init 58 = .ok (.dup, 1) := by decide +kernel
theorem dX4_init_59 : decode cX4_init 59 = .ok (.invokespecial 26, 3) := by decide +kernel
theorem dX4_init_62 : decode cX4_init 62 = .ok (.putfield 27, 3) := by decide +kernel
theorem dX4_init_65 : decode cX4_init 65 = .ok (.aload_n 0, 1) := by decide +kernel
theorem dX4_init_66 : decode cX4_init 66 = .ok (.new 31, 3) := by decide +kernel
theorem dX4_init_69 : decode cX4_init 69 = .ok (.dup, 1) := by decide +kernel
theorem dX4_init_70 : decode cX4_init 70 = .ok (.invokespecial 33, 3) := by decide +kernel
theorem dX4_init_73 : decode cX4_init 73 = .ok (.putfield 34, 3) := by decide +kernel
theorem dX4_init_76 : decode cX4_init 76 = .ok (.return_, 1) := by decide +kernel
set_option maxRecDepth 20000 in
theorem ggX4_row_X4_isPlot : GoodIn wsX4_row wsX4_isPlot := goodIn_r _ [8] (by decide +kernel) (by decide +kernel)
set_option maxRecDepth 20000 in
theorem gX4_row_X4_isPlot : GoodIn wsX4_row (va_wsS RX4 38 yX4_isPlot wsX4_isPlot) := goodIn_app (goodIn_of _ (by decide +kernel)) ggX4_row_X4_isPlot
set_option maxRecDepth 20000 in
theorem ggX4_row_X3_letAllGo : GoodIn wsX4_row wsX3_letAllGo := goodIn_r _ [13, 14, 39, 40, 41, 42, 43, 44, 45] (by decide +kernel) (by decide +kernel)
set_option maxRecDepth 20000 in
theorem gX4_row_X3_letAllGo : GoodIn wsX4_row (wsV RX4 49 RX3 yX3_letAllGo wsX3_letAllGo) := goodIn_app (goodIn_of _ (by decide +kernel)) ggX4_row_X3_letAllGo
set_option maxRecDepth 20000 in
theorem ggX4_row_X1_plotCount : GoodIn wsX4_row wsX1_plotCount := goodIn_r _ [19, 20, 21, 22, 23, 24, 18, 25, 31, 32, 33, 34, 35, 36, 37, 38] (by decide +kernel) (by decide +kernel)
set_option maxRecDepth 20000 in
theorem gX4_row_X1_plotCount : GoodIn wsX4_row (wsV RX4 52 RX1 yX1_plotCount wsX1_plotCount) := goodIn_app (goodIn_of _ (by decide +kernel)) ggX4_row_X1_plotCount
theorem dX4_row_0 : decode cX4_row 0 = .ok (.iload_n 2, 1) := by decide +kernel
theorem dX4_row_1 : decode cX4_row 1 = .ok (.iload_n 1, 1) := by decide +kernel
theorem dX4_row_2 : decode cX4_row 2 = .ok (.invokestatic 38, 3) := by decide +kernel
theorem dX4_row_5 : decode cX4_row 5 = .ok (.ifCond .eq 11, 3) := by decide +kernel
theorem dX4_row_8 : decode cX4_row 8 = .ok (.iload_n 3, 1) := by decide +kernel
theorem dX4_row_9 : decode cX4_row 9 = .ok (.iload_n 1, 1) := by decide +kernel
theorem dX4_row_10 : decode cX4_row 10 = .ok (.invokestatic 38, 3) := by decide +kernel
theorem dX4_row_13 : decode cX4_row 13 = .ok (.ifCond .ne 6, 3) := by decide +kernel
theorem dX4_row_16 : decode cX4_row 16 = .ok (.bipush (-2), 2) := by decide +kernel
theorem dX4_row_18 : decode cX4_row 18 = .ok (.ireturn, 1) := by decide +kernel
theorem dX4_row_19 : decode cX4_row 19 = .ok (.aload_n 0, 1) := by decide +kernel
theorem dX4_row_20 : decode cX4_row 20 = .ok (.getfield 12, 3) := by decide +kernel
theorem dX4_row_23 : decode cX4_row 23 = .ok (.getfield 42, 3) := by decide +kernel
theorem dX4_row_26 : decode cX4_row 26 = .ok (.iload_n 1, 1) := by decide +kernel
theorem dX4_row_27 : decode cX4_row 27 = .ok (.iload_n 2, 1) := by decide +kernel
theorem dX4_row_28 : decode cX4_row 28 = .ok (.iastore, 1) := by decide +kernel
theorem dX4_row_29 : decode cX4_row 29 = .ok (.aload_n 0, 1) := by decide +kernel
theorem dX4_row_30 : decode cX4_row 30 = .ok (.getfield 12, 3) := by decide +kernel
theorem dX4_row_33 : decode cX4_row 33 = .ok (.getfield 46, 3) := by decide +kernel
theorem dX4_row_36 : decode cX4_row 36 = .ok (.iload_n 1, 1) := by decide +kernel
theorem dX4_row_37 : decode cX4_row 37 = .ok (.iload_n 3, 1) := by decide +kernel
theorem dX4_row_38 : decode cX4_row 38 = .ok (.iastore, 1) := by decide +kernel
theorem dX4_row_39 : decode cX4_row 39 = .ok (.aload_n 0, 1) := by decide +kernel
theorem dX4_row_40 : decode cX4_row 40 = .ok (.getfield 27, 3) := by decide +kernel
theorem dX4_row_43 : decode cX4_row 43 = .ok (.invokevirtual 49, 3) := by decide +kernel
theorem dX4_row_46 : decode cX4_row 46 = .ok (.aload_n 0, 1) := by decide +kernel
theorem dX4_row_47 : decode cX4_row 47 = .ok (.getfield 12, 3) := by decide +kernel
theorem dX4_row_50 : decode cX4_row 50 = .ok (.invokevirtual 52, 3) := by decide +kernel
theorem dX4_row_53 : decode cX4_row 53 = .ok (.ireturn, 1) := by decide +kernel
set_option maxRecDepth 20000 in
theorem ggX4_gauge_X4_isPlace : GoodIn wsX4_gauge wsX4_isPlace := goodIn_r _ [9] (by decide +kernel) (by decide +kernel)
set_option maxRecDepth 20000 in
theorem gX4_gauge_X4_isPlace : GoodIn wsX4_gauge (va_wsS RX4 56 yX4_isPlace wsX4_isPlace) := goodIn_app (goodIn_of _ (by decide +kernel)) ggX4_gauge_X4_isPlace
set_option maxRecDepth 20000 in
theorem ggX4_gauge_X1_gaugeAt : GoodIn wsX4_gauge wsX1_gaugeAt := goodIn_r _ [14, 15, 16, 17, 29, 30, 31, 32, 33, 34, 35, 36] (by decide +kernel) (by decide +kernel)
set_option maxRecDepth 20000 in
theorem gX4_gauge_X1_gaugeAt : GoodIn wsX4_gauge (wsV RX4 59 RX1 yX1_gaugeAt wsX1_gaugeAt) := goodIn_app (goodIn_of _ (by decide +kernel)) ggX4_gauge_X1_gaugeAt
set_option maxRecDepth 20000 in
theorem ggX4_gauge_X3_letAllGo : GoodIn wsX4_gauge wsX3_letAllGo := goodIn_r _ [22, 23, 37, 38, 39, 40, 41, 42, 43] (by decide +kernel) (by decide +kernel)
set_option maxRecDepth 20000 in
theorem gX4_gauge_X3_letAllGo : GoodIn wsX4_gauge (wsV RX4 49 RX3 yX3_letAllGo wsX3_letAllGo) := goodIn_app (goodIn_of _ (by decide +kernel)) ggX4_gauge_X3_letAllGo
theorem dX4_gauge_0 : decode cX4_gauge 0 = .ok (.iload_n 1, 1) := by decide +kernel
theorem dX4_gauge_1 : decode cX4_gauge 1 = .ok (.iload_n 2, 1) := by decide +kernel
theorem dX4_gauge_2 : decode cX4_gauge 2 = .ok (.invokestatic 56, 3) := by decide +kernel
theorem dX4_gauge_5 : decode cX4_gauge 5 = .ok (.ifCond .ne 6, 3) := by decide +kernel
theorem dX4_gauge_8 : decode cX4_gauge 8 = .ok (.bipush (-2), 2) := by decide +kernel
theorem dX4_gauge_10 : decode cX4_gauge 10 = .ok (.ireturn, 1) := by decide +kernel
theorem dX4_gauge_11 : decode cX4_gauge 11 = .ok (.aload_n 0, 1) := by decide +kernel
theorem dX4_gauge_12 : decode cX4_gauge 12 = .ok (.getfield 12, 3) := by decide +kernel
theorem dX4_gauge_15 : decode cX4_gauge 15 = .ok (.iload_n 1, 1) := by decide +kernel
theorem dX4_gauge_16 : decode cX4_gauge 16 = .ok (.iload_n 2, 1) := by decide +kernel
theorem dX4_gauge_17 : decode cX4_gauge 17 = .ok (.invokevirtual 59, 3) := by decide +kernel
theorem dX4_gauge_20 : decode cX4_gauge 20 = .ok (.iconst (-1), 1) := by decide +kernel
theorem dX4_gauge_21 : decode cX4_gauge 21 = .ok (.if_icmp .eq 6, 3) := by decide +kernel
theorem dX4_gauge_24 : decode cX4_gauge 24 = .ok (.bipush (-5), 2) := by decide +kernel
theorem dX4_gauge_26 : decode cX4_gauge 26 = .ok (.ireturn, 1) := by decide +kernel
theorem dX4_gauge_27 : decode cX4_gauge 27 = .ok (.aload_n 0, 1) := by decide +kernel
theorem dX4_gauge_28 : decode cX4_gauge 28 = .ok (.getfield 12, 3) := by decide +kernel
theorem dX4_gauge_31 : decode cX4_gauge 31 = .ok (.getfield 63, 3) := by decide +kernel
theorem dX4_gauge_34 : decode cX4_gauge 34 = .ok (.bipush 8, 2) := by decide +kernel
theorem dX4_gauge_36 : decode cX4_gauge 36 = .ok (.if_icmp .lt 6, 3) := by decide +kernel
theorem dX4_gauge_39 : decode cX4_gauge 39 = .ok (.bipush (-4), 2) := by decide +kernel
theorem dX4_gauge_41 : decode cX4_gauge 41 = .ok (.ireturn, 1) := by decide +kernel
theorem dX4_gauge_42 : decode cX4_gauge 42 = .ok (.aload_n 0, 1) := by decide +kernel
theorem dX4_gauge_43 : decode cX4_gauge 43 = .ok (.getfield 12, 3) := by decide +kernel
theorem dX4_gauge_46 : decode cX4_gauge 46 = .ok (.getfield 63, 3) := by decide +kernel
theorem dX4_gauge_49 : decode cX4_gauge 49 = .ok (.istore_n 3, 1) := by decide +kernel
theorem dX4_gauge_50 : decode cX4_gauge 50 = .ok (.aload_n 0, 1) := by decide +kernel
theorem dX4_gauge_51 : decode cX4_gauge 51 = .ok (.getfield 12, 3) := by decide +kernel
theorem dX4_gauge_54 : decode cX4_gauge 54 = .ok (.iload_n 3, 1) := by decide +kernel
theorem dX4_gauge_55 : decode cX4_gauge 55 = .ok (.iconst 1, 1) := by decide +kernel
theorem dX4_gauge_56 : decode cX4_gauge 56 = .ok (.iadd, 1) := by decide +kernel
theorem dX4_gauge_57 : decode cX4_gauge 57 = .ok (.putfield 63, 3) := by decide +kernel
theorem dX4_gauge_60 : decode cX4_gauge 60 = .ok (.aload_n 0, 1) := by decide +kernel
theorem dX4_gauge_61 : decode cX4_gauge 61 = .ok (.getfield 12, 3) := by decide +kernel
theorem dX4_gauge_64 : decode cX4_gauge 64 = .ok (.getfield 66, 3) := by decide +kernel
theorem dX4_gauge_67 : decode cX4_gauge 67 = .ok (.iload_n 3, 1) := by decide +kernel
theorem dX4_gauge_68 : decode cX4_gauge 68 = .ok (.iload_n 1, 1) := by decide +kernel
theorem dX4_gauge_69 : decode cX4_gauge 69 = .ok (.iastore, 1) := by decide +kernel
theorem dX4_gauge_70 : decode cX4_gauge 70 = .ok (.aload_n 0, 1) := by decide +kernel
theorem dX4_gauge_71 : decode cX4_gauge 71 = .ok (.getfield 12, 3) := by decide +kernel
theorem dX4_gauge_74 : decode cX4_gauge 74 = .ok (.getfield 69, 3) := by decide +kernel
theorem dX4_gauge_77 : decode cX4_gauge 77 = .ok (.iload_n 3, 1) := by decide +kernel
theorem dX4_gauge_78 : decode cX4_gauge 78 = .ok (.iload_n 2, 1) := by decide +kernel
theorem dX4_gauge_79 : decode cX4_gauge 79 = .ok (.iastore, 1) := by decide +kernel
theorem dX4_gauge_80 : decode cX4_gauge 80 = .ok (.aload_n 0, 1) := by decide +kernel
theorem dX4_gauge_81 : decode cX4_gauge 81 = .ok (.getfield 27, 3) := by decide +kernel
theorem dX4_gauge_84 : decode cX4_gauge 84 = .ok (.invokevirtual 49, 3) := by decide +kernel
theorem dX4_gauge_87 : decode cX4_gauge 87 = .ok (.iload_n 3, 1) := by decide +kernel
theorem dX4_gauge_88 : decode cX4_gauge 88 = .ok (.ireturn, 1) := by decide +kernel
set_option maxRecDepth 20000 in
theorem ggX4_move_X1_knows : GoodIn wsX4_move wsX1_knows := goodIn_r _ [9, 10, 36, 37, 38, 39, 40, 41, 42, 43] (by decide +kernel) (by decide +kernel)
set_option maxRecDepth 20000 in
theorem gX4_move_X1_knows : GoodIn wsX4_move (wsV RX4 72 RX1 yX1_knows wsX1_knows) := goodIn_app (goodIn_of _ (by decide +kernel)) ggX4_move_X1_knows
set_option maxRecDepth 20000 in
theorem ggX4_move_X4_isPlace : GoodIn wsX4_move wsX4_isPlace := goodIn_r _ [14] (by decide +kernel) (by decide +kernel)
set_option maxRecDepth 20000 in
theorem gX4_move_X4_isPlace : GoodIn wsX4_move (va_wsS RX4 56 yX4_isPlace wsX4_isPlace) := goodIn_app (goodIn_of _ (by decide +kernel)) ggX4_move_X4_isPlace
set_option maxRecDepth 20000 in
theorem ggX4_move_X1_gaugeAt : GoodIn wsX4_move wsX1_gaugeAt := goodIn_r _ [18, 10, 19, 20, 36, 37, 38, 39, 40, 41, 42, 43] (by decide +kernel) (by decide +kernel)
set_option maxRecDepth 20000 in
theorem gX4_move_X1_gaugeAt : GoodIn wsX4_move (wsV RX4 59 RX1 yX1_gaugeAt wsX1_gaugeAt) := goodIn_app (goodIn_of _ (by decide +kernel)) ggX4_move_X1_gaugeAt
set_option maxRecDepth 20000 in
theorem ggX4_move_X1_farFrom : GoodIn wsX4_move wsX1_farFrom := goodIn_r _ [24, 19, 20, 36, 37, 38, 39, 40, 41, 42, 43] (by decide +kernel) (by decide +kernel)
set_option maxRecDepth 20000 in
theorem gX4_move_X1_farFrom : GoodIn wsX4_move (wsV RX4 76 RX1 yX1_farFrom wsX1_farFrom) := goodIn_app (goodIn_of _ (by decide +kernel)) ggX4_move_X1_farFrom
set_option maxRecDepth 20000 in
theorem ggX4_move_X3_letAllGo : GoodIn wsX4_move wsX3_letAllGo := goodIn_r _ [29, 30, 44, 45, 46, 47, 48, 49, 50] (by decide +kernel) (by decide +kernel)
set_option maxRecDepth 20000 in
theorem gX4_move_X3_letAllGo : GoodIn wsX4_move (wsV RX4 49 RX3 yX3_letAllGo wsX3_letAllGo) := goodIn_app (goodIn_of _ (by decide +kernel)) ggX4_move_X3_letAllGo
