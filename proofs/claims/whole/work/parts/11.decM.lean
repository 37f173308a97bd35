theorem d_M_init_0 : decode cc_M_init 0 = .ok (.aload_n 0, 1) := by decide +kernel
theorem d_M_init_1 : decode cc_M_init 1 = .ok (.invokespecial 1, 3) := by decide +kernel
theorem d_M_init_4 : decode cc_M_init 4 = .ok (.aload_n 0, 1) := by decide +kernel
theorem d_M_init_5 : decode cc_M_init 5 = .ok (.bipush 60, 2) := by decide +kernel
theorem d_M_init_7 : decode cc_M_init 7 = .ok (.newarray .int, 2) := by decide +kernel
theorem d_M_init_9 : decode cc_M_init 9 = .ok (.putfield 7, 3) := by decide +kernel
theorem d_M_init_12 : decode cc_M_init 12 = .ok (.aload_n 0, 1) := by decide +kernel
theorem d_M_init_13 : decode cc_M_init 13 = .ok (.bipush 60, 2) := by decide +kernel
theorem d_M_init_15 : decode cc_M_init 15 = .ok (.newarray .int, 2) := by decide +kernel
theorem d_M_init_17 : decode cc_M_init 17 = .ok (.putfield 13, 3) := by decide +kernel
theorem d_M_init_20 : decode cc_M_init 20 = .ok (.aload_n 0, 1) := by decide +kernel
theorem d_M_init_21 : decode cc_M_init 21 = .ok (.bipush 60, 2) := by decide +kernel
theorem d_M_init_23 : decode cc_M_init 23 = .ok (.newarray .int, 2) := by decide +kernel
theorem d_M_init_25 : decode cc_M_init 25 = .ok (.putfield 16, 3) := by decide +kernel
theorem d_M_init_28 : decode cc_M_init 28 = .ok (.aload_n 0, 1) := by decide +kernel
theorem d_M_init_29 : decode cc_M_init 29 = .ok (.bipush 60, 2) := by decide +kernel
theorem d_M_init_31 : decode cc_M_init 31 = .ok (.newarray .int, 2) := by decide +kernel
theorem d_M_init_33 : decode cc_M_init 33 = .ok (.putfield 19, 3) := by decide +kernel
theorem d_M_init_36 : decode cc_M_init 36 = .ok (.aload_n 0, 1) := by decide +kernel
theorem d_M_init_37 : decode cc_M_init 37 = .ok (.sipush 1240, 3) := by decide +kernel
theorem d_M_init_40 : decode cc_M_init 40 = .ok (.newarray .int, 2) := by decide +kernel
theorem d_M_init_42 : decode cc_M_init 42 = .ok (.putfield 22, 3) := by decide +kernel
theorem d_M_init_45 : decode cc_M_init 45 = .ok (.aload_n 0, 1) := by decide +kernel
theorem d_M_init_46 : decode cc_M_init 46 = .ok (.sipush 1240, 3) := by decide +kernel
theorem d_M_init_49 : decode cc_M_init 49 = .ok (.newarray .int, 2) := by decide +kernel
theorem d_M_init_51 : decode cc_M_init 51 = .ok (.putfield 25, 3) := by decide +kernel
theorem d_M_init_54 : decode cc_M_init 54 = .ok (.aload_n 0, 1) := by decide +kernel
theorem d_M_init_55 : decode cc_M_init 55 = .ok (.sipush 1240, 3) := by decide +kernel
theorem d_M_init_58 : decode cc_M_init 58 = .ok (.newarray .int, 2) := by decide +kernel
theorem d_M_init_60 : decode cc_M_init 60 = .ok (.putfield 28, 3) := by decide +kernel
theorem d_M_init_63 : decode cc_M_init 63 = .ok (.aload_n 0, 1) := by decide +kernel
theorem d_M_init_64 : decode cc_M_init 64 = .ok (.sipush 620, 3) := by decide +kernel
theorem d_M_init_67 : decode cc_M_init 67 = .ok (.newarray .int, 2) := by decide +kernel
theorem d_M_init_69 : decode cc_M_init 69 = .ok (.putfield 31, 3) := by decide +kernel
theorem d_M_init_72 : decode cc_M_init 72 = .ok (.aload_n 0, 1) := by decide +kernel
theorem d_M_init_73 : decode cc_M_init 73 = .ok (.sipush 620, 3) := by decide +kernel
theorem d_M_init_76 : decode cc_M_init 76 = .ok (.newarray .int, 2) := by decide +kernel
theorem d_M_init_78 : decode cc_M_init 78 = .ok (.putfield 34, 3) := by decide +kernel
theorem d_M_init_81 : decode cc_M_init 81 = .ok (.aload_n 0, 1) := by decide +kernel
theorem d_M_init_82 : decode cc_M_init 82 = .ok (.sipush 620, 3) := by decide +kernel
theorem d_M_init_85 : decode cc_M_init 85 = .ok (.newarray .int, 2) := by decide +kernel
theorem d_M_init_87 : decode cc_M_init 87 = .ok (.putfield 37, 3) := by decide +kernel
theorem d_M_init_90 : decode cc_M_init 90 = .ok (.aload_n 0, 1) := by decide +kernel
theorem d_M_init_91 : decode cc_M_init 91 = .ok (.sipush 248, 3) := by decide +kernel
theorem d_M_init_94 : decode cc_M_init 94 = .ok (.newarray .int, 2) := by decide +kernel
theorem d_M_init_96 : decode cc_M_init 96 = .ok (.putfield 40, 3) := by decide +kernel
theorem d_M_init_99 : decode cc_M_init 99 = .ok (.aload_n 0, 1) := by decide +kernel
theorem d_M_init_100 : decode cc_M_init 100 = .ok (.sipush 6200, 3) := by decide +kernel
theorem d_M_init_103 : decode cc_M_init 103 = .ok (.newarray .int, 2) := by decide +kernel
theorem d_M_init_105 : decode cc_M_init 105 = .ok (.putfield 43, 3) := by decide +kernel
theorem d_M_init_108 : decode cc_M_init 108 = .ok (.aload_n 0, 1) := by decide +kernel
theorem d_M_init_109 : decode cc_M_init 109 = .ok (.bipush 100, 2) := by decide +kernel
theorem d_M_init_111 : decode cc_M_init 111 = .ok (.newarray .int, 2) := by decide +kernel
theorem d_M_init_113 : decode cc_M_init 113 = .ok (.putfield 46, 3) := by decide +kernel
theorem d_M_init_116 : decode cc_M_init 116 = .ok (.aload_n 0, 1) := by decide +kernel
theorem d_M_init_117 : decode cc_M_init 117 = .ok (.iconst 4, 1) := by decide +kernel
theorem d_M_init_118 : decode cc_M_init 118 = .ok (.newarray .int, 2) := by decide +kernel
theorem d_M_init_120 : decode cc_M_init 120 = .ok (.putfield 49, 3) := by decide +kernel
theorem d_M_init_123 : decode cc_M_init 123 = .ok (.aload_n 0, 1) := by decide +kernel
theorem d_M_init_124 : decode cc_M_init 124 = .ok (.bipush 64, 2) := by decide +kernel
theorem d_M_init_126 : decode cc_M_init 126 = .ok (.newarray .int, 2) := by decide +kernel
theorem d_M_init_128 : decode cc_M_init 128 = .ok (.putfield 52, 3) := by decide +kernel
theorem d_M_init_131 : decode cc_M_init 131 = .ok (.iconst 0, 1) := by decide +kernel
theorem d_M_init_132 : decode cc_M_init 132 = .ok (.istore_n 1, 1) := by decide +kernel
theorem d_M_init_133 : decode cc_M_init 133 = .ok (.iload_n 1, 1) := by decide +kernel
theorem d_M_init_134 : decode cc_M_init 134 = .ok (.bipush 20, 2) := by decide +kernel
theorem d_M_init_136 : decode cc_M_init 136 = .ok (.if_icmp .ge 23, 3) := by decide +kernel
theorem d_M_init_139 : decode cc_M_init 139 = .ok (.aload_n 0, 1) := by decide +kernel
theorem d_M_init_140 : decode cc_M_init 140 = .ok (.getfield 22, 3) := by decide +kernel
theorem d_M_init_143 : decode cc_M_init 143 = .ok (.iload_n 1, 1) := by decide +kernel
theorem d_M_init_144 : decode cc_M_init 144 = .ok (.iconst (-1), 1) := by decide +kernel
theorem d_M_init_145 : decode cc_M_init 145 = .ok (.iastore, 1) := by decide +kernel
theorem d_M_init_146 : decode cc_M_init 146 = .ok (.aload_n 0, 1) := by decide +kernel
theorem d_M_init_147 : decode cc_M_init 147 = .ok (.getfield 28, 3) := by decide +kernel
theorem d_M_init_150 : decode cc_M_init 150 = .ok (.iload_n 1, 1) := by decide +kernel
theorem d_M_init_151 : decode cc_M_init 151 = .ok (.iconst (-1), 1) := by decide +kernel
theorem d_M_init_152 : decode cc_M_init 152 = .ok (.iastore, 1) := by decide +kernel
theorem d_M_init_153 : decode cc_M_init 153 = .ok (.iinc 1 1, 3) := by decide +kernel
theorem d_M_init_156 : decode cc_M_init 156 = .ok (.goto (-23), 3) := by decide +kernel
theorem d_M_init_159 : decode cc_M_init 159 = .ok (.return_, 1) := by decide +kernel
theorem d_M_thrown_0 : decode cc_M_thrown 0 = .ok (.aload_n 0, 1) := by decide +kernel
theorem d_M_thrown_1 : decode cc_M_thrown 1 = .ok (.getfield 55, 3) := by decide +kernel
theorem d_M_thrown_4 : decode cc_M_thrown 4 = .ok (.ireturn, 1) := by decide +kernel
theorem d_M_in_0 : decode cc_M_in 0 = .ok (.iload_n 0, 1) := by decide +kernel
theorem d_M_in_1 : decode cc_M_in 1 = .ok (.iload_n 1, 1) := by decide +kernel
theorem d_M_in_2 : decode cc_M_in 2 = .ok (.if_icmp .lt 12, 3) := by decide +kernel
theorem d_M_in_5 : decode cc_M_in 5 = .ok (.iload_n 0, 1) := by decide +kernel
theorem d_M_in_6 : decode cc_M_in 6 = .ok (.iload_n 2, 1) := by decide +kernel
theorem d_M_in_7 : decode cc_M_in 7 = .ok (.if_icmp .gt 7, 3) := by decide +kernel
theorem d_M_in_10 : decode cc_M_in 10 = .ok (.iconst 1, 1) := by decide +kernel
theorem d_M_in_11 : decode cc_M_in 11 = .ok (.goto 4, 3) := by decide +kernel
theorem d_M_in_14 : decode cc_M_in 14 = .ok (.iconst 0, 1) := by decide +kernel
theorem d_M_in_15 : decode cc_M_in 15 = .ok (.ireturn, 1) := by decide +kernel
theorem d_M_isUnit_0 : decode cc_M_isUnit 0 = .ok (.iload_n 0, 1) := by decide +kernel
theorem d_M_isUnit_1 : decode cc_M_isUnit 1 = .ok (.iconst 0, 1) := by decide +kernel
theorem d_M_isUnit_2 : decode cc_M_isUnit 2 = .ok (.bipush 19, 2) := by decide +kernel
theorem d_M_isUnit_4 : decode cc_M_isUnit 4 = .ok (.invokestatic 59, 3) := by decide +kernel
theorem d_M_isUnit_7 : decode cc_M_isUnit 7 = .ok (.ireturn, 1) := by decide +kernel
theorem d_M_isPlace_0 : decode cc_M_isPlace 0 = .ok (.iload_n 0, 1) := by decide +kernel
theorem d_M_isPlace_1 : decode cc_M_isPlace 1 = .ok (.iconst 0, 1) := by decide +kernel
theorem d_M_isPlace_2 : decode cc_M_isPlace 2 = .ok (.bipush 9, 2) := by decide +kernel
theorem d_M_isPlace_4 : decode cc_M_isPlace 4 = .ok (.invokestatic 59, 3) := by decide +kernel
theorem d_M_isPlace_7 : decode cc_M_isPlace 7 = .ok (.ireturn, 1) := by decide +kernel
theorem d_M_isOrder_0 : decode cc_M_isOrder 0 = .ok (.iload_n 1, 1) := by decide +kernel
theorem d_M_isOrder_1 : decode cc_M_isOrder 1 = .ok (.iconst 0, 1) := by decide +kernel
theorem d_M_isOrder_2 : decode cc_M_isOrder 2 = .ok (.bipush 9, 2) := by decide +kernel
theorem d_M_isOrder_4 : decode cc_M_isOrder 4 = .ok (.invokestatic 59, 3) := by decide +kernel
theorem d_M_isOrder_7 : decode cc_M_isOrder 7 = .ok (.ifCond .eq 24, 3) := by decide +kernel
theorem d_M_isOrder_10 : decode cc_M_isOrder 10 = .ok (.aload_n 0, 1) := by decide +kernel
theorem d_M_isOrder_11 : decode cc_M_isOrder 11 = .ok (.getfield 31, 3) := by decide +kernel
theorem d_M_isOrder_14 : decode cc_M_isOrder 14 = .ok (.bipush 10, 2) := by decide +kernel
theorem d_M_isOrder_16 : decode cc_M_isOrder 16 = .ok (.aload_n 0, 1) := by decide +kernel
theorem d_M_isOrder_17 : decode cc_M_isOrder 17 = .ok (.getfield 63, 3) := by decide +kernel
theorem d_M_isOrder_20 : decode cc_M_isOrder 20 = .ok (.imul, 1) := by decide +kernel
theorem d_M_isOrder_21 : decode cc_M_isOrder 21 = .ok (.iload_n 1, 1) := by decide +kernel
theorem d_M_isOrder_22 : decode cc_M_isOrder 22 = .ok (.iadd, 1) := by decide +kernel
theorem d_M_isOrder_23 : decode cc_M_isOrder 23 = .ok (.iaload, 1) := by decide +kernel
theorem d_M_isOrder_24 : decode cc_M_isOrder 24 = .ok (.ifCond .le 7, 3) := by decide +kernel
theorem d_M_isOrder_27 : decode cc_M_isOrder 27 = .ok (.iconst 1, 1) := by decide +kernel
theorem d_M_isOrder_28 : decode cc_M_isOrder 28 = .ok (.goto 4, 3) := by decide +kernel
theorem d_M_isOrder_31 : decode cc_M_isOrder 31 = .ok (.iconst 0, 1) := by decide +kernel
theorem d_M_isOrder_32 : decode cc_M_isOrder 32 = .ok (.ireturn, 1) := by decide +kernel
theorem d_M_isSaid_0 : decode cc_M_isSaid 0 = .ok (.iload_n 0, 1) := by decide +kernel
theorem d_M_isSaid_1 : decode cc_M_isSaid 1 = .ok (.ifCond .ne 32, 3) := by decide +kernel
theorem d_M_isSaid_4 : decode cc_M_isSaid 4 = .ok (.iload_n 1, 1) := by decide +kernel
theorem d_M_isSaid_5 : decode cc_M_isSaid 5 = .ok (.invokestatic 66, 3) := by decide +kernel
theorem d_M_isSaid_8 : decode cc_M_isSaid 8 = .ok (.ifCond .eq 23, 3) := by decide +kernel
theorem d_M_isSaid_11 : decode cc_M_isSaid 11 = .ok (.iload_n 2, 1) := by decide +kernel
theorem d_M_isSaid_12 : decode cc_M_isSaid 12 = .ok (.iconst 0, 1) := by decide +kernel
theorem d_M_isSaid_13 : decode cc_M_isSaid 13 = .ok (.iconst 5, 1) := by decide +kernel
theorem d_M_isSaid_14 : decode cc_M_isSaid 14 = .ok (.invokestatic 59, 3) := by decide +kernel
theorem d_M_isSaid_17 : decode cc_M_isSaid 17 = .ok (.ifCond .eq 14, 3) := by decide +kernel
theorem d_M_isSaid_20 : decode cc_M_isSaid 20 = .ok (.iload_n 3, 1) := by decide +kernel
theorem d_M_isSaid_21 : decode cc_M_isSaid 21 = .ok (.invokestatic 70, 3) := by decide +kernel
theorem d_M_isSaid_24 : decode cc_M_isSaid 24 = .ok (.ifCond .eq 7, 3) := by decide +kernel
theorem d_M_isSaid_27 : decode cc_M_isSaid 27 = .ok (.iconst 1, 1) := by decide +kernel
theorem d_M_isSaid_28 : decode cc_M_isSaid 28 = .ok (.goto 4, 3) := by decide +kernel
theorem d_M_isSaid_31 : decode cc_M_isSaid 31 = .ok (.iconst 0, 1) := by decide +kernel
theorem d_M_isSaid_32 : decode cc_M_isSaid 32 = .ok (.ireturn, 1) := by decide +kernel
theorem d_M_isSaid_33 : decode cc_M_isSaid 33 = .ok (.iload_n 0, 1) := by decide +kernel
theorem d_M_isSaid_34 : decode cc_M_isSaid 34 = .ok (.iconst 1, 1) := by decide +kernel
theorem d_M_isSaid_35 : decode cc_M_isSaid 35 = .ok (.if_icmp .ne 27, 3) := by decide +kernel
theorem d_M_isSaid_38 : decode cc_M_isSaid 38 = .ok (.iload_n 1, 1) := by decide +kernel
theorem d_M_isSaid_39 : decode cc_M_isSaid 39 = .ok (.invokestatic 66, 3) := by decide +kernel
theorem d_M_isSaid_42 : decode cc_M_isSaid 42 = .ok (.ifCond .eq 18, 3) := by decide +kernel
theorem d_M_isSaid_45 : decode cc_M_isSaid 45 = .ok (.iload_n 2, 1) := by decide +kernel
theorem d_M_isSaid_46 : decode cc_M_isSaid 46 = .ok (.invokestatic 70, 3) := by decide +kernel
theorem d_M_isSaid_49 : decode cc_M_isSaid 49 = .ok (.ifCond .eq 11, 3) := by decide +kernel
theorem d_M_isSaid_52 : decode cc_M_isSaid 52 = .ok (.iload_n 3, 1) := by decide +kernel
theorem d_M_isSaid_53 : decode cc_M_isSaid 53 = .ok (.ifCond .ne 7, 3) := by decide +kernel
theorem d_M_isSaid_56 : decode cc_M_isSaid 56 = .ok (.iconst 1, 1) := by decide +kernel
theorem d_M_isSaid_57 : decode cc_M_isSaid 57 = .ok (.goto 4, 3) := by decide +kernel
theorem d_M_isSaid_60 : decode cc_M_isSaid 60 = .ok (.iconst 0, 1) := by decide +kernel
theorem d_M_isSaid_61 : decode cc_M_isSaid 61 = .ok (.ireturn, 1) := by decide +kernel
theorem d_M_isSaid_62 : decode cc_M_isSaid 62 = .ok (.iload_n 0, 1) := by decide +kernel
theorem d_M_isSaid_63 : decode cc_M_isSaid 63 = .ok (.iconst 2, 1) := by decide +kernel
theorem d_M_isSaid_64 : decode cc_M_isSaid 64 = .ok (.if_icmp .ne 24, 3) := by decide +kernel
theorem d_M_isSaid_67 : decode cc_M_isSaid 67 = .ok (.iload_n 1, 1) := by decide +kernel
theorem d_M_isSaid_68 : decode cc_M_isSaid 68 = .ok (.invokestatic 66, 3) := by decide +kernel
theorem d_M_isSaid_71 : decode cc_M_isSaid 71 = .ok (.ifCond .eq 15, 3) := by decide +kernel
theorem d_M_isSaid_74 : decode cc_M_isSaid 74 = .ok (.iload_n 2, 1) := by decide +kernel
theorem d_M_isSaid_75 : decode cc_M_isSaid 75 = .ok (.ifCond .ne 11, 3) := by decide +kernel
theorem d_M_isSaid_78 : decode cc_M_isSaid 78 = .ok (.iload_n 3, 1) := by decide +kernel
theorem d_M_isSaid_79 : decode cc_M_isSaid 79 = .ok (.ifCond .ne 7, 3) := by decide +kernel
theorem d_M_isSaid_82 : decode cc_M_isSaid 82 = .ok (.iconst 1, 1) := by decide +kernel
theorem d_M_isSaid_83 : decode cc_M_isSaid 83 = .ok (.goto 4, 3) := by decide +kernel
theorem d_M_isSaid_86 : decode cc_M_isSaid 86 = .ok (.iconst 0, 1) := by decide +kernel
theorem d_M_isSaid_87 : decode cc_M_isSaid 87 = .ok (.ireturn, 1) := by decide +kernel
theorem d_M_isSaid_88 : decode cc_M_isSaid 88 = .ok (.iload_n 0, 1) := by decide +kernel
theorem d_M_isSaid_89 : decode cc_M_isSaid 89 = .ok (.iconst 3, 1) := by decide +kernel
theorem d_M_isSaid_90 : decode cc_M_isSaid 90 = .ok (.if_icmp .ne 38, 3) := by decide +kernel
theorem d_M_isSaid_93 : decode cc_M_isSaid 93 = .ok (.iload_n 1, 1) := by decide +kernel
theorem d_M_isSaid_94 : decode cc_M_isSaid 94 = .ok (.iconst 0, 1) := by decide +kernel
theorem d_M_isSaid_95 : decode cc_M_isSaid 95 = .ok (.bipush 9, 2) := by decide +kernel
theorem d_M_isSaid_97 : decode cc_M_isSaid 97 = .ok (.invokestatic 59, 3) := by decide +kernel
theorem d_M_isSaid_100 : decode cc_M_isSaid 100 = .ok (.ifCond .eq 26, 3) := by decide +kernel
theorem d_M_isSaid_103 : decode cc_M_isSaid 103 = .ok (.iload_n 2, 1) := by decide +kernel
theorem d_M_isSaid_104 : decode cc_M_isSaid 104 = .ok (.iconst 1, 1) := by decide +kernel
theorem d_M_isSaid_105 : decode cc_M_isSaid 105 = .ok (.bipush 9, 2) := by decide +kernel
theorem d_M_isSaid_107 : decode cc_M_isSaid 107 = .ok (.invokestatic 59, 3) := by decide +kernel
theorem d_M_isSaid_110 : decode cc_M_isSaid 110 = .ok (.ifCond .eq 16, 3) := by decide +kernel
theorem d_M_isSaid_113 : decode cc_M_isSaid 113 = .ok (.iload_n 3, 1) := by decide +kernel
theorem d_M_isSaid_114 : decode cc_M_isSaid 114 = .ok (.iconst 0, 1) := by decide +kernel
theorem d_M_isSaid_115 : decode cc_M_isSaid 115 = .ok (.iconst 5, 1) := by decide +kernel
theorem d_M_isSaid_116 : decode cc_M_isSaid 116 = .ok (.invokestatic 59, 3) := by decide +kernel
theorem d_M_isSaid_119 : decode cc_M_isSaid 119 = .ok (.ifCond .eq 7, 3) := by decide +kernel
theorem d_M_isSaid_122 : decode cc_M_isSaid 122 = .ok (.iconst 1, 1) := by decide +kernel
theorem d_M_isSaid_123 : decode cc_M_isSaid 123 = .ok (.goto 4, 3) := by decide +kernel
theorem d_M_isSaid_126 : decode cc_M_isSaid 126 = .ok (.iconst 0, 1) := by decide +kernel
theorem d_M_isSaid_127 : decode cc_M_isSaid 127 = .ok (.ireturn, 1) := by decide +kernel
theorem d_M_isSaid_128 : decode cc_M_isSaid 128 = .ok (.iload_n 0, 1) := by decide +kernel
theorem d_M_isSaid_129 : decode cc_M_isSaid 129 = .ok (.iconst 4, 1) := by decide +kernel
theorem d_M_isSaid_130 : decode cc_M_isSaid 130 = .ok (.if_icmp .ne 30, 3) := by decide +kernel
theorem d_M_isSaid_133 : decode cc_M_isSaid 133 = .ok (.iload_n 1, 1) := by decide +kernel
theorem d_M_isSaid_134 : decode cc_M_isSaid 134 = .ok (.invokestatic 66, 3) := by decide +kernel
theorem d_M_isSaid_137 : decode cc_M_isSaid 137 = .ok (.ifCond .eq 21, 3) := by decide +kernel
theorem d_M_isSaid_140 : decode cc_M_isSaid 140 = .ok (.iload_n 2, 1) := by decide +kernel
theorem d_M_isSaid_141 : decode cc_M_isSaid 141 = .ok (.iconst 0, 1) := by decide +kernel
theorem d_M_isSaid_142 : decode cc_M_isSaid 142 = .ok (.bipush 9, 2) := by decide +kernel
theorem d_M_isSaid_144 : decode cc_M_isSaid 144 = .ok (.invokestatic 59, 3) := by decide +kernel
theorem d_M_isSaid_147 : decode cc_M_isSaid 147 = .ok (.ifCond .eq 11, 3) := by decide +kernel
theorem d_M_isSaid_150 : decode cc_M_isSaid 150 = .ok (.iload_n 3, 1) := by decide +kernel
theorem d_M_isSaid_151 : decode cc_M_isSaid 151 = .ok (.ifCond .ne 7, 3) := by decide +kernel
theorem d_M_isSaid_154 : decode cc_M_isSaid 154 = .ok (.iconst 1, 1) := by decide +kernel
theorem d_M_isSaid_155 : decode cc_M_isSaid 155 = .ok (.goto 4, 3) := by decide +kernel
theorem d_M_isSaid_158 : decode cc_M_isSaid 158 = .ok (.iconst 0, 1) := by decide +kernel
theorem d_M_isSaid_159 : decode cc_M_isSaid 159 = .ok (.ireturn, 1) := by decide +kernel
theorem d_M_isSaid_160 : decode cc_M_isSaid 160 = .ok (.iload_n 0, 1) := by decide +kernel
theorem d_M_isSaid_161 : decode cc_M_isSaid 161 = .ok (.iconst 5, 1) := by decide +kernel
theorem d_M_isSaid_162 : decode cc_M_isSaid 162 = .ok (.if_icmp .ne 39, 3) := by decide +kernel
theorem d_M_isSaid_165 : decode cc_M_isSaid 165 = .ok (.iload_n 1, 1) := by decide +kernel
theorem d_M_isSaid_166 : decode cc_M_isSaid 166 = .ok (.iconst 0, 1) := by decide +kernel
theorem d_M_isSaid_167 : decode cc_M_isSaid 167 = .ok (.iconst 3, 1) := by decide +kernel
theorem d_M_isSaid_168 : decode cc_M_isSaid 168 = .ok (.invokestatic 59, 3) := by decide +kernel
theorem d_M_isSaid_171 : decode cc_M_isSaid 171 = .ok (.ifCond .eq 28, 3) := by decide +kernel
theorem d_M_isSaid_174 : decode cc_M_isSaid 174 = .ok (.iload_n 2, 1) := by decide +kernel
theorem d_M_isSaid_175 : decode cc_M_isSaid 175 = .ok (.sipush (-10000), 3) := by decide +kernel
theorem d_M_isSaid_178 : decode cc_M_isSaid 178 = .ok (.sipush 10000, 3) := by decide +kernel
theorem d_M_isSaid_181 : decode cc_M_isSaid 181 = .ok (.invokestatic 59, 3) := by decide +kernel
theorem d_M_isSaid_184 : decode cc_M_isSaid 184 = .ok (.ifCond .eq 15, 3) := by decide +kernel
theorem d_M_isSaid_187 : decode cc_M_isSaid 187 = .ok (.iload_n 2, 1) := by decide +kernel
theorem d_M_isSaid_188 : decode cc_M_isSaid 188 = .ok (.ifCond .eq 11, 3) := by decide +kernel
theorem d_M_isSaid_191 : decode cc_M_isSaid 191 = .ok (.iload_n 3, 1) := by decide +kernel
theorem d_M_isSaid_192 : decode cc_M_isSaid 192 = .ok (.ifCond .ne 7, 3) := by decide +kernel
theorem d_M_isSaid_195 : decode cc_M_isSaid 195 = .ok (.iconst 1, 1) := by decide +kernel
theorem d_M_isSaid_196 : decode cc_M_isSaid 196 = .ok (.goto 4, 3) := by decide +kernel
theorem d_M_isSaid_199 : decode cc_M_isSaid 199 = .ok (.iconst 0, 1) := by decide +kernel
theorem d_M_isSaid_200 : decode cc_M_isSaid 200 = .ok (.ireturn, 1) := by decide +kernel
theorem d_M_isSaid_201 : decode cc_M_isSaid 201 = .ok (.iload_n 0, 1) := by decide +kernel
theorem d_M_isSaid_202 : decode cc_M_isSaid 202 = .ok (.bipush 6, 2) := by decide +kernel
theorem d_M_isSaid_204 : decode cc_M_isSaid 204 = .ok (.if_icmp .ne 31, 3) := by decide +kernel
theorem d_M_isSaid_207 : decode cc_M_isSaid 207 = .ok (.iload_n 1, 1) := by decide +kernel
theorem d_M_isSaid_208 : decode cc_M_isSaid 208 = .ok (.invokestatic 70, 3) := by decide +kernel
theorem d_M_isSaid_211 : decode cc_M_isSaid 211 = .ok (.ifCond .eq 24, 3) := by decide +kernel
theorem d_M_isSaid_214 : decode cc_M_isSaid 214 = .ok (.iload_n 2, 1) := by decide +kernel
theorem d_M_isSaid_215 : decode cc_M_isSaid 215 = .ok (.invokestatic 70, 3) := by decide +kernel
theorem d_M_isSaid_218 : decode cc_M_isSaid 218 = .ok (.ifCond .eq 17, 3) := by decide +kernel
theorem d_M_isSaid_221 : decode cc_M_isSaid 221 = .ok (.iload_n 3, 1) := by decide +kernel
theorem d_M_isSaid_222 : decode cc_M_isSaid 222 = .ok (.iconst 1, 1) := by decide +kernel
theorem d_M_isSaid_223 : decode cc_M_isSaid 223 = .ok (.bipush 99, 2) := by decide +kernel
theorem d_M_isSaid_225 : decode cc_M_isSaid 225 = .ok (.invokestatic 59, 3) := by decide +kernel
theorem d_M_isSaid_228 : decode cc_M_isSaid 228 = .ok (.ifCond .eq 7, 3) := by decide +kernel
theorem d_M_isSaid_231 : decode cc_M_isSaid 231 = .ok (.iconst 1, 1) := by decide +kernel
theorem d_M_isSaid_232 : decode cc_M_isSaid 232 = .ok (.goto 4, 3) := by decide +kernel
theorem d_M_isSaid_235 : decode cc_M_isSaid 235 = .ok (.iconst 0, 1) := by decide +kernel
theorem d_M_isSaid_236 : decode cc_M_isSaid 236 = .ok (.ireturn, 1) := by decide +kernel
theorem d_M_isOpen_0 : decode cc_M_isOpen 0 = .ok (.aload_n 0, 1) := by decide +kernel
theorem d_M_isOpen_1 : decode cc_M_isOpen 1 = .ok (.getfield 37, 3) := by decide +kernel
theorem d_M_isOpen_4 : decode cc_M_isOpen 4 = .ok (.bipush 10, 2) := by decide +kernel
theorem d_M_isOpen_6 : decode cc_M_isOpen 6 = .ok (.iload_n 1, 1) := by decide +kernel
theorem d_M_isOpen_7 : decode cc_M_isOpen 7 = .ok (.imul, 1) := by decide +kernel
theorem d_M_isOpen_8 : decode cc_M_isOpen 8 = .ok (.iload_n 2, 1) := by decide +kernel
theorem d_M_isOpen_9 : decode cc_M_isOpen 9 = .ok (.iadd, 1) := by decide +kernel
theorem d_M_isOpen_10 : decode cc_M_isOpen 10 = .ok (.iaload, 1) := by decide +kernel
theorem d_M_isOpen_11 : decode cc_M_isOpen 11 = .ok (.aload_n 0, 1) := by decide +kernel
theorem d_M_isOpen_12 : decode cc_M_isOpen 12 = .ok (.getfield 31, 3) := by decide +kernel
theorem d_M_isOpen_15 : decode cc_M_isOpen 15 = .ok (.bipush 10, 2) := by decide +kernel
theorem d_M_isOpen_17 : decode cc_M_isOpen 17 = .ok (.iload_n 1, 1) := by decide +kernel
theorem d_M_isOpen_18 : decode cc_M_isOpen 18 = .ok (.imul, 1) := by decide +kernel
theorem d_M_isOpen_19 : decode cc_M_isOpen 19 = .ok (.iload_n 2, 1) := by decide +kernel
theorem d_M_isOpen_20 : decode cc_M_isOpen 20 = .ok (.iadd, 1) := by decide +kernel
theorem d_M_isOpen_21 : decode cc_M_isOpen 21 = .ok (.iaload, 1) := by decide +kernel
theorem d_M_isOpen_22 : decode cc_M_isOpen 22 = .ok (.if_icmp .ge 7, 3) := by decide +kernel
theorem d_M_isOpen_25 : decode cc_M_isOpen 25 = .ok (.iconst 1, 1) := by decide +kernel
theorem d_M_isOpen_26 : decode cc_M_isOpen 26 = .ok (.goto 4, 3) := by decide +kernel
theorem d_M_isOpen_29 : decode cc_M_isOpen 29 = .ok (.iconst 0, 1) := by decide +kernel
theorem d_M_isOpen_30 : decode cc_M_isOpen 30 = .ok (.ireturn, 1) := by decide +kernel
theorem d_M_mayGo_0 : decode cc_M_mayGo 0 = .ok (.aload_n 0, 1) := by decide +kernel
theorem d_M_mayGo_1 : decode cc_M_mayGo 1 = .ok (.getfield 22, 3) := by decide +kernel
theorem d_M_mayGo_4 : decode cc_M_mayGo 4 = .ok (.bipush 20, 2) := by decide +kernel
theorem d_M_mayGo_6 : decode cc_M_mayGo 6 = .ok (.iload_n 1, 1) := by decide +kernel
theorem d_M_mayGo_7 : decode cc_M_mayGo 7 = .ok (.imul, 1) := by decide +kernel
theorem d_M_mayGo_8 : decode cc_M_mayGo 8 = .ok (.iload_n 2, 1) := by decide +kernel
theorem d_M_mayGo_9 : decode cc_M_mayGo 9 = .ok (.iadd, 1) := by decide +kernel
theorem d_M_mayGo_10 : decode cc_M_mayGo 10 = .ok (.iaload, 1) := by decide +kernel
theorem d_M_mayGo_11 : decode cc_M_mayGo 11 = .ok (.iconst (-1), 1) := by decide +kernel
theorem d_M_mayGo_12 : decode cc_M_mayGo 12 = .ok (.if_icmp .eq 41, 3) := by decide +kernel
theorem d_M_mayGo_15 : decode cc_M_mayGo 15 = .ok (.aload_n 0, 1) := by decide +kernel
theorem d_M_mayGo_16 : decode cc_M_mayGo 16 = .ok (.getfield 28, 3) := by decide +kernel
theorem d_M_mayGo_19 : decode cc_M_mayGo 19 = .ok (.bipush 20, 2) := by decide +kernel
theorem d_M_mayGo_21 : decode cc_M_mayGo 21 = .ok (.iload_n 1, 1) := by decide +kernel
theorem d_M_mayGo_22 : decode cc_M_mayGo 22 = .ok (.imul, 1) := by decide +kernel
theorem d_M_mayGo_23 : decode cc_M_mayGo 23 = .ok (.iload_n 2, 1) := by decide +kernel
theorem d_M_mayGo_24 : decode cc_M_mayGo 24 = .ok (.iadd, 1) := by decide +kernel
theorem d_M_mayGo_25 : decode cc_M_mayGo 25 = .ok (.iaload, 1) := by decide +kernel
theorem d_M_mayGo_26 : decode cc_M_mayGo 26 = .ok (.iconst (-1), 1) := by decide +kernel
theorem d_M_mayGo_27 : decode cc_M_mayGo 27 = .ok (.if_icmp .eq 22, 3) := by decide +kernel
theorem d_M_mayGo_30 : decode cc_M_mayGo 30 = .ok (.aload_n 0, 1) := by decide +kernel
theorem d_M_mayGo_31 : decode cc_M_mayGo 31 = .ok (.iload_n 1, 1) := by decide +kernel
theorem d_M_mayGo_32 : decode cc_M_mayGo 32 = .ok (.aload_n 0, 1) := by decide +kernel
theorem d_M_mayGo_33 : decode cc_M_mayGo 33 = .ok (.getfield 28, 3) := by decide +kernel
theorem d_M_mayGo_36 : decode cc_M_mayGo 36 = .ok (.bipush 20, 2) := by decide +kernel
theorem d_M_mayGo_38 : decode cc_M_mayGo 38 = .ok (.iload_n 1, 1) := by decide +kernel
theorem d_M_mayGo_39 : decode cc_M_mayGo 39 = .ok (.imul, 1) := by decide +kernel
theorem d_M_mayGo_40 : decode cc_M_mayGo 40 = .ok (.iload_n 2, 1) := by decide +kernel
theorem d_M_mayGo_41 : decode cc_M_mayGo 41 = .ok (.iadd, 1) := by decide +kernel
theorem d_M_mayGo_42 : decode cc_M_mayGo 42 = .ok (.iaload, 1) := by decide +kernel
theorem d_M_mayGo_43 : decode cc_M_mayGo 43 = .ok (.invokevirtual 73, 3) := by decide +kernel
theorem d_M_mayGo_46 : decode cc_M_mayGo 46 = .ok (.ifCond .ne 7, 3) := by decide +kernel
theorem d_M_mayGo_49 : decode cc_M_mayGo 49 = .ok (.iconst 1, 1) := by decide +kernel
theorem d_M_mayGo_50 : decode cc_M_mayGo 50 = .ok (.goto 4, 3) := by decide +kernel
theorem d_M_mayGo_53 : decode cc_M_mayGo 53 = .ok (.iconst 0, 1) := by decide +kernel
theorem d_M_mayGo_54 : decode cc_M_mayGo 54 = .ok (.ireturn, 1) := by decide +kernel
theorem d_M_mayGive_0 : decode cc_M_mayGive 0 = .ok (.bipush 20, 2) := by decide +kernel
theorem d_M_mayGive_2 : decode cc_M_mayGive 2 = .ok (.iload_n 1, 1) := by decide +kernel
theorem d_M_mayGive_3 : decode cc_M_mayGive 3 = .ok (.imul, 1) := by decide +kernel
theorem d_M_mayGive_4 : decode cc_M_mayGive 4 = .ok (.iload_n 2, 1) := by decide +kernel
theorem d_M_mayGive_5 : decode cc_M_mayGive 5 = .ok (.iadd, 1) := by decide +kernel
theorem d_M_mayGive_6 : decode cc_M_mayGive 6 = .ok (.istore 4, 2) := by decide +kernel
theorem d_M_mayGive_8 : decode cc_M_mayGive 8 = .ok (.aload_n 0, 1) := by decide +kernel
theorem d_M_mayGive_9 : decode cc_M_mayGive 9 = .ok (.getfield 22, 3) := by decide +kernel
theorem d_M_mayGive_12 : decode cc_M_mayGive 12 = .ok (.iload 4, 2) := by decide +kernel
theorem d_M_mayGive_14 : decode cc_M_mayGive 14 = .ok (.iaload, 1) := by decide +kernel
theorem d_M_mayGive_15 : decode cc_M_mayGive 15 = .ok (.iconst (-1), 1) := by decide +kernel
theorem d_M_mayGive_16 : decode cc_M_mayGive 16 = .ok (.if_icmp .eq 62, 3) := by decide +kernel
theorem d_M_mayGive_19 : decode cc_M_mayGive 19 = .ok (.aload_n 0, 1) := by decide +kernel
theorem d_M_mayGive_20 : decode cc_M_mayGive 20 = .ok (.getfield 28, 3) := by decide +kernel
theorem d_M_mayGive_23 : decode cc_M_mayGive 23 = .ok (.iload 4, 2) := by decide +kernel
theorem d_M_mayGive_25 : decode cc_M_mayGive 25 = .ok (.iaload, 1) := by decide +kernel
theorem d_M_mayGive_26 : decode cc_M_mayGive 26 = .ok (.iconst (-1), 1) := by decide +kernel
theorem d_M_mayGive_27 : decode cc_M_mayGive 27 = .ok (.if_icmp .ne 51, 3) := by decide +kernel
theorem d_M_mayGive_30 : decode cc_M_mayGive 30 = .ok (.aload_n 0, 1) := by decide +kernel
theorem d_M_mayGive_31 : decode cc_M_mayGive 31 = .ok (.getfield 31, 3) := by decide +kernel
theorem d_M_mayGive_34 : decode cc_M_mayGive 34 = .ok (.bipush 10, 2) := by decide +kernel
theorem d_M_mayGive_36 : decode cc_M_mayGive 36 = .ok (.iload_n 1, 1) := by decide +kernel
theorem d_M_mayGive_37 : decode cc_M_mayGive 37 = .ok (.imul, 1) := by decide +kernel
theorem d_M_mayGive_38 : decode cc_M_mayGive 38 = .ok (.iload_n 3, 1) := by decide +kernel
theorem d_M_mayGive_39 : decode cc_M_mayGive 39 = .ok (.iadd, 1) := by decide +kernel
theorem d_M_mayGive_40 : decode cc_M_mayGive 40 = .ok (.iaload, 1) := by decide +kernel
theorem d_M_mayGive_41 : decode cc_M_mayGive 41 = .ok (.ifCond .le 37, 3) := by decide +kernel
theorem d_M_mayGive_44 : decode cc_M_mayGive 44 = .ok (.aload_n 0, 1) := by decide +kernel
theorem d_M_mayGive_45 : decode cc_M_mayGive 45 = .ok (.getfield 25, 3) := by decide +kernel
theorem d_M_mayGive_48 : decode cc_M_mayGive 48 = .ok (.iload 4, 2) := by decide +kernel
theorem d_M_mayGive_50 : decode cc_M_mayGive 50 = .ok (.iaload, 1) := by decide +kernel
theorem d_M_mayGive_51 : decode cc_M_mayGive 51 = .ok (.aload_n 0, 1) := by decide +kernel
theorem d_M_mayGive_52 : decode cc_M_mayGive 52 = .ok (.getfield 34, 3) := by decide +kernel
theorem d_M_mayGive_55 : decode cc_M_mayGive 55 = .ok (.bipush 10, 2) := by decide +kernel
theorem d_M_mayGive_57 : decode cc_M_mayGive 57 = .ok (.iload_n 1, 1) := by decide +kernel
theorem d_M_mayGive_58 : decode cc_M_mayGive 58 = .ok (.imul, 1) := by decide +kernel
theorem d_M_mayGive_59 : decode cc_M_mayGive 59 = .ok (.iload_n 3, 1) := by decide +kernel
theorem d_M_mayGive_60 : decode cc_M_mayGive 60 = .ok (.iadd, 1) := by decide +kernel
theorem d_M_mayGive_61 : decode cc_M_mayGive 61 = .ok (.iaload, 1) := by decide +kernel
theorem d_M_mayGive_62 : decode cc_M_mayGive 62 = .ok (.if_icmp .ne 16, 3) := by decide +kernel
theorem d_M_mayGive_65 : decode cc_M_mayGive 65 = .ok (.aload_n 0, 1) := by decide +kernel
theorem d_M_mayGive_66 : decode cc_M_mayGive 66 = .ok (.iload_n 1, 1) := by decide +kernel
theorem d_M_mayGive_67 : decode cc_M_mayGive 67 = .ok (.iload_n 3, 1) := by decide +kernel
theorem d_M_mayGive_68 : decode cc_M_mayGive 68 = .ok (.invokevirtual 73, 3) := by decide +kernel
theorem d_M_mayGive_71 : decode cc_M_mayGive 71 = .ok (.ifCond .eq 7, 3) := by decide +kernel
theorem d_M_mayGive_74 : decode cc_M_mayGive 74 = .ok (.iconst 1, 1) := by decide +kernel
theorem d_M_mayGive_75 : decode cc_M_mayGive 75 = .ok (.goto 4, 3) := by decide +kernel
theorem d_M_mayGive_78 : decode cc_M_mayGive 78 = .ok (.iconst 0, 1) := by decide +kernel
theorem d_M_mayGive_79 : decode cc_M_mayGive 79 = .ok (.ireturn, 1) := by decide +kernel
theorem d_M_can_0 : decode cc_M_can 0 = .ok (.iload_n 2, 1) := by decide +kernel
theorem d_M_can_1 : decode cc_M_can 1 = .ok (.ifCond .ne 24, 3) := by decide +kernel
theorem d_M_can_4 : decode cc_M_can 4 = .ok (.aload_n 0, 1) := by decide +kernel
theorem d_M_can_5 : decode cc_M_can 5 = .ok (.getfield 22, 3) := by decide +kernel
theorem d_M_can_8 : decode cc_M_can 8 = .ok (.bipush 20, 2) := by decide +kernel
theorem d_M_can_10 : decode cc_M_can 10 = .ok (.iload_n 1, 1) := by decide +kernel
theorem d_M_can_11 : decode cc_M_can 11 = .ok (.imul, 1) := by decide +kernel
theorem d_M_can_12 : decode cc_M_can 12 = .ok (.iload_n 3, 1) := by decide +kernel
theorem d_M_can_13 : decode cc_M_can 13 = .ok (.iadd, 1) := by decide +kernel
theorem d_M_can_14 : decode cc_M_can 14 = .ok (.iaload, 1) := by decide +kernel
theorem d_M_can_15 : decode cc_M_can 15 = .ok (.iconst (-1), 1) := by decide +kernel
theorem d_M_can_16 : decode cc_M_can 16 = .ok (.if_icmp .ne 7, 3) := by decide +kernel
theorem d_M_can_19 : decode cc_M_can 19 = .ok (.iconst 1, 1) := by decide +kernel
theorem d_M_can_20 : decode cc_M_can 20 = .ok (.goto 4, 3) := by decide +kernel
theorem d_M_can_23 : decode cc_M_can 23 = .ok (.iconst 0, 1) := by decide +kernel
theorem d_M_can_24 : decode cc_M_can 24 = .ok (.ireturn, 1) := by decide +kernel
theorem d_M_can_25 : decode cc_M_can 25 = .ok (.iload_n 2, 1) := by decide +kernel
theorem d_M_can_26 : decode cc_M_can 26 = .ok (.iconst 1, 1) := by decide +kernel
theorem d_M_can_27 : decode cc_M_can 27 = .ok (.if_icmp .ne 24, 3) := by decide +kernel
theorem d_M_can_30 : decode cc_M_can 30 = .ok (.aload_n 0, 1) := by decide +kernel
theorem d_M_can_31 : decode cc_M_can 31 = .ok (.getfield 22, 3) := by decide +kernel
theorem d_M_can_34 : decode cc_M_can 34 = .ok (.bipush 20, 2) := by decide +kernel
theorem d_M_can_36 : decode cc_M_can 36 = .ok (.iload_n 1, 1) := by decide +kernel
theorem d_M_can_37 : decode cc_M_can 37 = .ok (.imul, 1) := by decide +kernel
theorem d_M_can_38 : decode cc_M_can 38 = .ok (.iload_n 3, 1) := by decide +kernel
theorem d_M_can_39 : decode cc_M_can 39 = .ok (.iadd, 1) := by decide +kernel
theorem d_M_can_40 : decode cc_M_can 40 = .ok (.iaload, 1) := by decide +kernel
theorem d_M_can_41 : decode cc_M_can 41 = .ok (.iconst (-1), 1) := by decide +kernel
theorem d_M_can_42 : decode cc_M_can 42 = .ok (.if_icmp .eq 7, 3) := by decide +kernel
theorem d_M_can_45 : decode cc_M_can 45 = .ok (.iconst 1, 1) := by decide +kernel
theorem d_M_can_46 : decode cc_M_can 46 = .ok (.goto 4, 3) := by decide +kernel
theorem d_M_can_49 : decode cc_M_can 49 = .ok (.iconst 0, 1) := by decide +kernel
theorem d_M_can_50 : decode cc_M_can 50 = .ok (.ireturn, 1) := by decide +kernel
theorem d_M_can_51 : decode cc_M_can 51 = .ok (.iload_n 2, 1) := by decide +kernel
theorem d_M_can_52 : decode cc_M_can 52 = .ok (.iconst 2, 1) := by decide +kernel
theorem d_M_can_53 : decode cc_M_can 53 = .ok (.if_icmp .ne 10, 3) := by decide +kernel
theorem d_M_can_56 : decode cc_M_can 56 = .ok (.aload_n 0, 1) := by decide +kernel
theorem d_M_can_57 : decode cc_M_can 57 = .ok (.iload_n 1, 1) := by decide +kernel
theorem d_M_can_58 : decode cc_M_can 58 = .ok (.iload_n 3, 1) := by decide +kernel
theorem d_M_can_59 : decode cc_M_can 59 = .ok (.invokevirtual 77, 3) := by decide +kernel
theorem d_M_can_62 : decode cc_M_can 62 = .ok (.ireturn, 1) := by decide +kernel
theorem d_M_can_63 : decode cc_M_can 63 = .ok (.iload_n 2, 1) := by decide +kernel
theorem d_M_can_64 : decode cc_M_can 64 = .ok (.iconst 3, 1) := by decide +kernel
theorem d_M_can_65 : decode cc_M_can 65 = .ok (.if_icmp .ne 23, 3) := by decide +kernel
theorem d_M_can_68 : decode cc_M_can 68 = .ok (.aload_n 0, 1) := by decide +kernel
theorem d_M_can_69 : decode cc_M_can 69 = .ok (.getfield 31, 3) := by decide +kernel
theorem d_M_can_72 : decode cc_M_can 72 = .ok (.bipush 10, 2) := by decide +kernel
theorem d_M_can_74 : decode cc_M_can 74 = .ok (.iload_n 1, 1) := by decide +kernel
theorem d_M_can_75 : decode cc_M_can 75 = .ok (.imul, 1) := by decide +kernel
theorem d_M_can_76 : decode cc_M_can 76 = .ok (.iload_n 3, 1) := by decide +kernel
theorem d_M_can_77 : decode cc_M_can 77 = .ok (.iadd, 1) := by decide +kernel
theorem d_M_can_78 : decode cc_M_can 78 = .ok (.iaload, 1) := by decide +kernel
theorem d_M_can_79 : decode cc_M_can 79 = .ok (.ifCond .ne 7, 3) := by decide +kernel
theorem d_M_can_82 : decode cc_M_can 82 = .ok (.iconst 1, 1) := by decide +kernel
theorem d_M_can_83 : decode cc_M_can 83 = .ok (.goto 4, 3) := by decide +kernel
theorem d_M_can_86 : decode cc_M_can 86 = .ok (.iconst 0, 1) := by decide +kernel
theorem d_M_can_87 : decode cc_M_can 87 = .ok (.ireturn, 1) := by decide +kernel
theorem d_M_can_88 : decode cc_M_can 88 = .ok (.iload_n 2, 1) := by decide +kernel
theorem d_M_can_89 : decode cc_M_can 89 = .ok (.iconst 4, 1) := by decide +kernel
theorem d_M_can_90 : decode cc_M_can 90 = .ok (.if_icmp .ne 12, 3) := by decide +kernel
theorem d_M_can_93 : decode cc_M_can 93 = .ok (.aload_n 0, 1) := by decide +kernel
theorem d_M_can_94 : decode cc_M_can 94 = .ok (.iload_n 1, 1) := by decide +kernel
theorem d_M_can_95 : decode cc_M_can 95 = .ok (.iload_n 3, 1) := by decide +kernel
theorem d_M_can_96 : decode cc_M_can 96 = .ok (.iload 4, 2) := by decide +kernel
theorem d_M_can_98 : decode cc_M_can 98 = .ok (.invokevirtual 80, 3) := by decide +kernel
theorem d_M_can_101 : decode cc_M_can 101 = .ok (.ireturn, 1) := by decide +kernel
theorem d_M_can_102 : decode cc_M_can 102 = .ok (.iload_n 2, 1) := by decide +kernel
theorem d_M_can_103 : decode cc_M_can 103 = .ok (.iconst 5, 1) := by decide +kernel
theorem d_M_can_104 : decode cc_M_can 104 = .ok (.if_icmp .eq 9, 3) := by decide +kernel
theorem d_M_can_107 : decode cc_M_can 107 = .ok (.iload_n 3, 1) := by decide +kernel
theorem d_M_can_108 : decode cc_M_can 108 = .ok (.iload 4, 2) := by decide +kernel
theorem d_M_can_110 : decode cc_M_can 110 = .ok (.if_icmp .eq 7, 3) := by decide +kernel
theorem d_M_can_113 : decode cc_M_can 113 = .ok (.iconst 1, 1) := by decide +kernel
theorem d_M_can_114 : decode cc_M_can 114 = .ok (.goto 4, 3) := by decide +kernel
theorem d_M_can_117 : decode cc_M_can 117 = .ok (.iconst 0, 1) := by decide +kernel
theorem d_M_can_118 : decode cc_M_can 118 = .ok (.ireturn, 1) := by decide +kernel
theorem d_M_copy_0 : decode cc_M_copy 0 = .ok (.iconst 0, 1) := by decide +kernel
theorem d_M_copy_1 : decode cc_M_copy 1 = .ok (.istore_n 3, 1) := by decide +kernel
theorem d_M_copy_2 : decode cc_M_copy 2 = .ok (.iload_n 3, 1) := by decide +kernel
theorem d_M_copy_3 : decode cc_M_copy 3 = .ok (.bipush 20, 2) := by decide +kernel
theorem d_M_copy_5 : decode cc_M_copy 5 = .ok (.if_icmp .ge 75, 3) := by decide +kernel
theorem d_M_copy_8 : decode cc_M_copy 8 = .ok (.aload_n 0, 1) := by decide +kernel
theorem d_M_copy_9 : decode cc_M_copy 9 = .ok (.getfield 22, 3) := by decide +kernel
theorem d_M_copy_12 : decode cc_M_copy 12 = .ok (.bipush 20, 2) := by decide +kernel
theorem d_M_copy_14 : decode cc_M_copy 14 = .ok (.iload_n 2, 1) := by decide +kernel
theorem d_M_copy_15 : decode cc_M_copy 15 = .ok (.imul, 1) := by decide +kernel
theorem d_M_copy_16 : decode cc_M_copy 16 = .ok (.iload_n 3, 1) := by decide +kernel
theorem d_M_copy_17 : decode cc_M_copy 17 = .ok (.iadd, 1) := by decide +kernel
theorem d_M_copy_18 : decode cc_M_copy 18 = .ok (.aload_n 0, 1) := by decide +kernel
theorem d_M_copy_19 : decode cc_M_copy 19 = .ok (.getfield 22, 3) := by decide +kernel
theorem d_M_copy_22 : decode cc_M_copy 22 = .ok (.bipush 20, 2) := by decide +kernel
theorem d_M_copy_24 : decode cc_M_copy 24 = .ok (.iload_n 1, 1) := by decide +kernel
theorem d_M_copy_25 : decode cc_M_copy 25 = .ok (.imul, 1) := by decide +kernel
theorem d_M_copy_26 : decode cc_M_copy 26 = .ok (.iload_n 3, 1) := by decide +kernel
theorem d_M_copy_27 : decode cc_M_copy 27 = .ok (.iadd, 1) := by decide +kernel
theorem d_M_copy_28 : decode cc_M_copy 28 = .ok (.iaload, 1) := by decide +kernel
theorem d_M_copy_29 : decode cc_M_copy 29 = .ok (.iastore, 1) := by decide +kernel
theorem d_M_copy_30 : decode cc_M_copy 30 = .ok (.aload_n 0, 1) := by decide +kernel
theorem d_M_copy_31 : decode cc_M_copy 31 = .ok (.getfield 25, 3) := by decide +kernel
theorem d_M_copy_34 : decode cc_M_copy 34 = .ok (.bipush 20, 2) := by decide +kernel
theorem d_M_copy_36 : decode cc_M_copy 36 = .ok (.iload_n 2, 1) := by decide +kernel
theorem d_M_copy_37 : decode cc_M_copy 37 = .ok (.imul, 1) := by decide +kernel
theorem d_M_copy_38 : decode cc_M_copy 38 = .ok (.iload_n 3, 1) := by decide +kernel
theorem d_M_copy_39 : decode cc_M_copy 39 = .ok (.iadd, 1) := by decide +kernel
theorem d_M_copy_40 : decode cc_M_copy 40 = .ok (.aload_n 0, 1) := by decide +kernel
theorem d_M_copy_41 : decode cc_M_copy 41 = .ok (.getfield 25, 3) := by decide +kernel
theorem d_M_copy_44 : decode cc_M_copy 44 = .ok (.bipush 20, 2) := by decide +kernel
theorem d_M_copy_46 : decode cc_M_copy 46 = .ok (.iload_n 1, 1) := by decide +kernel
theorem d_M_copy_47 : decode cc_M_copy 47 = .ok (.imul, 1) := by decide +kernel
theorem d_M_copy_48 : decode cc_M_copy 48 = .ok (.iload_n 3, 1) := by decide +kernel
theorem d_M_copy_49 : decode cc_M_copy 49 = .ok (.iadd, 1) := by decide +kernel
theorem d_M_copy_50 : decode cc_M_copy 50 = .ok (.iaload, 1) := by decide +kernel
theorem d_M_copy_51 : decode cc_M_copy 51 = .ok (.iastore, 1) := by decide +kernel
theorem d_M_copy_52 : decode cc_M_copy 52 = .ok (.aload_n 0, 1) := by decide +kernel
theorem d_M_copy_53 : decode cc_M_copy 53 = .ok (.getfield 28, 3) := by decide +kernel
theorem d_M_copy_56 : decode cc_M_copy 56 = .ok (.bipush 20, 2) := by decide +kernel
theorem d_M_copy_58 : decode cc_M_copy 58 = .ok (.iload_n 2, 1) := by decide +kernel
theorem d_M_copy_59 : decode cc_M_copy 59 = .ok (.imul, 1) := by decide +kernel
theorem d_M_copy_60 : decode cc_M_copy 60 = .ok (.iload_n 3, 1) := by decide +kernel
theorem d_M_copy_61 : decode cc_M_copy 61 = .ok (.iadd, 1) := by decide +kernel
theorem d_M_copy_62 : decode cc_M_copy 62 = .ok (.aload_n 0, 1) := by decide +kernel
theorem d_M_copy_63 : decode cc_M_copy 63 = .ok (.getfield 28, 3) := by decide +kernel
theorem d_M_copy_66 : decode cc_M_copy 66 = .ok (.bipush 20, 2) := by decide +kernel
theorem d_M_copy_68 : decode cc_M_copy 68 = .ok (.iload_n 1, 1) := by decide +kernel
theorem d_M_copy_69 : decode cc_M_copy 69 = .ok (.imul, 1) := by decide +kernel
theorem d_M_copy_70 : decode cc_M_copy 70 = .ok (.iload_n 3, 1) := by decide +kernel
theorem d_M_copy_71 : decode cc_M_copy 71 = .ok (.iadd, 1) := by decide +kernel
theorem d_M_copy_72 : decode cc_M_copy 72 = .ok (.iaload, 1) := by decide +kernel
theorem d_M_copy_73 : decode cc_M_copy 73 = .ok (.iastore, 1) := by decide +kernel
theorem d_M_copy_74 : decode cc_M_copy 74 = .ok (.iinc 3 1, 3) := by decide +kernel
theorem d_M_copy_77 : decode cc_M_copy 77 = .ok (.goto (-75), 3) := by decide +kernel
theorem d_M_copy_80 : decode cc_M_copy 80 = .ok (.iconst 0, 1) := by decide +kernel
theorem d_M_copy_81 : decode cc_M_copy 81 = .ok (.istore_n 3, 1) := by decide +kernel
theorem d_M_copy_82 : decode cc_M_copy 82 = .ok (.iload_n 3, 1) := by decide +kernel
theorem d_M_copy_83 : decode cc_M_copy 83 = .ok (.bipush 10, 2) := by decide +kernel
theorem d_M_copy_85 : decode cc_M_copy 85 = .ok (.if_icmp .ge 75, 3) := by decide +kernel
theorem d_M_copy_88 : decode cc_M_copy 88 = .ok (.aload_n 0, 1) := by decide +kernel
theorem d_M_copy_89 : decode cc_M_copy 89 = .ok (.getfield 31, 3) := by decide +kernel
theorem d_M_copy_92 : decode cc_M_copy 92 = .ok (.bipush 10, 2) := by decide +kernel
theorem d_M_copy_94 : decode cc_M_copy 94 = .ok (.iload_n 2, 1) := by decide +kernel
theorem d_M_copy_95 : decode cc_M_copy 95 = .ok (.imul, 1) := by decide +kernel
theorem d_M_copy_96 : decode cc_M_copy 96 = .ok (.iload_n 3, 1) := by decide +kernel
theorem d_M_copy_97 : decode cc_M_copy 97 = .ok (.iadd, 1) := by decide +kernel
theorem d_M_copy_98 : decode cc_M_copy 98 = .ok (.aload_n 0, 1) := by decide +kernel
theorem d_M_copy_99 : decode cc_M_copy 99 = .ok (.getfield 31, 3) := by decide +kernel
theorem d_M_copy_102 : decode cc_M_copy 102 = .ok (.bipush 10, 2) := by decide +kernel
theorem d_M_copy_104 : decode cc_M_copy 104 = .ok (.iload_n 1, 1) := by decide +kernel
theorem d_M_copy_105 : decode cc_M_copy 105 = .ok (.imul, 1) := by decide +kernel
theorem d_M_copy_106 : decode cc_M_copy 106 = .ok (.iload_n 3, 1) := by decide +kernel
theorem d_M_copy_107 : decode cc_M_copy 107 = .ok (.iadd, 1) := by decide +kernel
theorem d_M_copy_108 : decode cc_M_copy 108 = .ok (.iaload, 1) := by decide +kernel
theorem d_M_copy_109 : decode cc_M_copy 109 = .ok (.iastore, 1) := by decide +kernel
theorem d_M_copy_110 : decode cc_M_copy 110 = .ok (.aload_n 0, 1) := by decide +kernel
theorem d_M_copy_111 : decode cc_M_copy 111 = .ok (.getfield 34, 3) := by decide +kernel
theorem d_M_copy_114 : decode cc_M_copy 114 = .ok (.bipush 10, 2) := by decide +kernel
theorem d_M_copy_116 : decode cc_M_copy 116 = .ok (.iload_n 2, 1) := by decide +kernel
theorem d_M_copy_117 : decode cc_M_copy 117 = .ok (.imul, 1) := by decide +kernel
theorem d_M_copy_118 : decode cc_M_copy 118 = .ok (.iload_n 3, 1) := by decide +kernel
theorem d_M_copy_119 : decode cc_M_copy 119 = .ok (.iadd, 1) := by decide +kernel
theorem d_M_copy_120 : decode cc_M_copy 120 = .ok (.aload_n 0, 1) := by decide +kernel
theorem d_M_copy_121 : decode cc_M_copy 121 = .ok (.getfield 34, 3) := by decide +kernel
theorem d_M_copy_124 : decode cc_M_copy 124 = .ok (.bipush 10, 2) := by decide +kernel
theorem d_M_copy_126 : decode cc_M_copy 126 = .ok (.iload_n 1, 1) := by decide +kernel
theorem d_M_copy_127 : decode cc_M_copy 127 = .ok (.imul, 1) := by decide +kernel
theorem d_M_copy_128 : decode cc_M_copy 128 = .ok (.iload_n 3, 1) := by decide +kernel
theorem d_M_copy_129 : decode cc_M_copy 129 = .ok (.iadd, 1) := by decide +kernel
theorem d_M_copy_130 : decode cc_M_copy 130 = .ok (.iaload, 1) := by decide +kernel
theorem d_M_copy_131 : decode cc_M_copy 131 = .ok (.iastore, 1) := by decide +kernel
theorem d_M_copy_132 : decode cc_M_copy 132 = .ok (.aload_n 0, 1) := by decide +kernel
theorem d_M_copy_133 : decode cc_M_copy 133 = .ok (.getfield 37, 3) := by decide +kernel
theorem d_M_copy_136 : decode cc_M_copy 136 = .ok (.bipush 10, 2) := by decide +kernel
theorem d_M_copy_138 : decode cc_M_copy 138 = .ok (.iload_n 2, 1) := by decide +kernel
theorem d_M_copy_139 : decode cc_M_copy 139 = .ok (.imul, 1) := by decide +kernel
theorem d_M_copy_140 : decode cc_M_copy 140 = .ok (.iload_n 3, 1) := by decide +kernel
theorem d_M_copy_141 : decode cc_M_copy 141 = .ok (.iadd, 1) := by decide +kernel
theorem d_M_copy_142 : decode cc_M_copy 142 = .ok (.aload_n 0, 1) := by decide +kernel
theorem d_M_copy_143 : decode cc_M_copy 143 = .ok (.getfield 37, 3) := by decide +kernel
theorem d_M_copy_146 : decode cc_M_copy 146 = .ok (.bipush 10, 2) := by decide +kernel
theorem d_M_copy_148 : decode cc_M_copy 148 = .ok (.iload_n 1, 1) := by decide +kernel
theorem d_M_copy_149 : decode cc_M_copy 149 = .ok (.imul, 1) := by decide +kernel
theorem d_M_copy_150 : decode cc_M_copy 150 = .ok (.iload_n 3, 1) := by decide +kernel
theorem d_M_copy_151 : decode cc_M_copy 151 = .ok (.iadd, 1) := by decide +kernel
theorem d_M_copy_152 : decode cc_M_copy 152 = .ok (.iaload, 1) := by decide +kernel
theorem d_M_copy_153 : decode cc_M_copy 153 = .ok (.iastore, 1) := by decide +kernel
theorem d_M_copy_154 : decode cc_M_copy 154 = .ok (.iinc 3 1, 3) := by decide +kernel
theorem d_M_copy_157 : decode cc_M_copy 157 = .ok (.goto (-75), 3) := by decide +kernel
theorem d_M_copy_160 : decode cc_M_copy 160 = .ok (.iconst 0, 1) := by decide +kernel
theorem d_M_copy_161 : decode cc_M_copy 161 = .ok (.istore_n 3, 1) := by decide +kernel
theorem d_M_copy_162 : decode cc_M_copy 162 = .ok (.iload_n 3, 1) := by decide +kernel
theorem d_M_copy_163 : decode cc_M_copy 163 = .ok (.iconst 4, 1) := by decide +kernel
theorem d_M_copy_164 : decode cc_M_copy 164 = .ok (.if_icmp .ge 29, 3) := by decide +kernel
theorem d_M_copy_167 : decode cc_M_copy 167 = .ok (.aload_n 0, 1) := by decide +kernel
theorem d_M_copy_168 : decode cc_M_copy 168 = .ok (.getfield 40, 3) := by decide +kernel
theorem d_M_copy_171 : decode cc_M_copy 171 = .ok (.iconst 4, 1) := by decide +kernel
theorem d_M_copy_172 : decode cc_M_copy 172 = .ok (.iload_n 2, 1) := by decide +kernel
theorem d_M_copy_173 : decode cc_M_copy 173 = .ok (.imul, 1) := by decide +kernel
theorem d_M_copy_174 : decode cc_M_copy 174 = .ok (.iload_n 3, 1) := by decide +kernel
theorem d_M_copy_175 : decode cc_M_copy 175 = .ok (.iadd, 1) := by decide +kernel
theorem d_M_copy_176 : decode cc_M_copy 176 = .ok (.aload_n 0, 1) := by decide +kernel
theorem d_M_copy_177 : decode cc_M_copy 177 = .ok (.getfield 40, 3) := by decide +kernel
theorem d_M_copy_180 : decode cc_M_copy 180 = .ok (.iconst 4, 1) := by decide +kernel
theorem d_M_copy_181 : decode cc_M_copy 181 = .ok (.iload_n 1, 1) := by decide +kernel
theorem d_M_copy_182 : decode cc_M_copy 182 = .ok (.imul, 1) := by decide +kernel
theorem d_M_copy_183 : decode cc_M_copy 183 = .ok (.iload_n 3, 1) := by decide +kernel
theorem d_M_copy_184 : decode cc_M_copy 184 = .ok (.iadd, 1) := by decide +kernel
theorem d_M_copy_185 : decode cc_M_copy 185 = .ok (.iaload, 1) := by decide +kernel
theorem d_M_copy_186 : decode cc_M_copy 186 = .ok (.iastore, 1) := by decide +kernel
theorem d_M_copy_187 : decode cc_M_copy 187 = .ok (.iinc 3 1, 3) := by decide +kernel
theorem d_M_copy_190 : decode cc_M_copy 190 = .ok (.goto (-28), 3) := by decide +kernel
theorem d_M_copy_193 : decode cc_M_copy 193 = .ok (.iconst 0, 1) := by decide +kernel
theorem d_M_copy_194 : decode cc_M_copy 194 = .ok (.istore_n 3, 1) := by decide +kernel
theorem d_M_copy_195 : decode cc_M_copy 195 = .ok (.iload_n 3, 1) := by decide +kernel
theorem d_M_copy_196 : decode cc_M_copy 196 = .ok (.bipush 100, 2) := by decide +kernel
theorem d_M_copy_198 : decode cc_M_copy 198 = .ok (.if_icmp .ge 31, 3) := by decide +kernel
theorem d_M_copy_201 : decode cc_M_copy 201 = .ok (.aload_n 0, 1) := by decide +kernel
theorem d_M_copy_202 : decode cc_M_copy 202 = .ok (.getfield 43, 3) := by decide +kernel
theorem d_M_copy_205 : decode cc_M_copy 205 = .ok (.bipush 100, 2) := by decide +kernel
theorem d_M_copy_207 : decode cc_M_copy 207 = .ok (.iload_n 2, 1) := by decide +kernel
theorem d_M_copy_208 : decode cc_M_copy 208 = .ok (.imul, 1) := by decide +kernel
theorem d_M_copy_209 : decode cc_M_copy 209 = .ok (.iload_n 3, 1) := by decide +kernel
theorem d_M_copy_210 : decode cc_M_copy 210 = .ok (.iadd, 1) := by decide +kernel
theorem d_M_copy_211 : decode cc_M_copy 211 = .ok (.aload_n 0, 1) := by decide +kernel
theorem d_M_copy_212 : decode cc_M_copy 212 = .ok (.getfield 43, 3) := by decide +kernel
theorem d_M_copy_215 : decode cc_M_copy 215 = .ok (.bipush 100, 2) := by decide +kernel
theorem d_M_copy_217 : decode cc_M_copy 217 = .ok (.iload_n 1, 1) := by decide +kernel
theorem d_M_copy_218 : decode cc_M_copy 218 = .ok (.imul, 1) := by decide +kernel
theorem d_M_copy_219 : decode cc_M_copy 219 = .ok (.iload_n 3, 1) := by decide +kernel
theorem d_M_copy_220 : decode cc_M_copy 220 = .ok (.iadd, 1) := by decide +kernel
theorem d_M_copy_221 : decode cc_M_copy 221 = .ok (.iaload, 1) := by decide +kernel
theorem d_M_copy_222 : decode cc_M_copy 222 = .ok (.iastore, 1) := by decide +kernel
theorem d_M_copy_223 : decode cc_M_copy 223 = .ok (.iinc 3 1, 3) := by decide +kernel
theorem d_M_copy_226 : decode cc_M_copy 226 = .ok (.goto (-31), 3) := by decide +kernel
theorem d_M_copy_229 : decode cc_M_copy 229 = .ok (.return_, 1) := by decide +kernel
theorem d_M_apply_0 : decode cc_M_apply 0 = .ok (.iload_n 2, 1) := by decide +kernel
theorem d_M_apply_1 : decode cc_M_apply 1 = .ok (.ifCond .ne 44, 3) := by decide +kernel
theorem d_M_apply_4 : decode cc_M_apply 4 = .ok (.aload_n 0, 1) := by decide +kernel
theorem d_M_apply_5 : decode cc_M_apply 5 = .ok (.getfield 22, 3) := by decide +kernel
theorem d_M_apply_8 : decode cc_M_apply 8 = .ok (.bipush 20, 2) := by decide +kernel
theorem d_M_apply_10 : decode cc_M_apply 10 = .ok (.iload_n 1, 1) := by decide +kernel
theorem d_M_apply_11 : decode cc_M_apply 11 = .ok (.imul, 1) := by decide +kernel
theorem d_M_apply_12 : decode cc_M_apply 12 = .ok (.iload_n 3, 1) := by decide +kernel
theorem d_M_apply_13 : decode cc_M_apply 13 = .ok (.iadd, 1) := by decide +kernel
theorem d_M_apply_14 : decode cc_M_apply 14 = .ok (.iload 5, 2) := by decide +kernel
theorem d_M_apply_16 : decode cc_M_apply 16 = .ok (.iastore, 1) := by decide +kernel
theorem d_M_apply_17 : decode cc_M_apply 17 = .ok (.aload_n 0, 1) := by decide +kernel
theorem d_M_apply_18 : decode cc_M_apply 18 = .ok (.getfield 25, 3) := by decide +kernel
theorem d_M_apply_21 : decode cc_M_apply 21 = .ok (.bipush 20, 2) := by decide +kernel
theorem d_M_apply_23 : decode cc_M_apply 23 = .ok (.iload_n 1, 1) := by decide +kernel
theorem d_M_apply_24 : decode cc_M_apply 24 = .ok (.imul, 1) := by decide +kernel
theorem d_M_apply_25 : decode cc_M_apply 25 = .ok (.iload_n 3, 1) := by decide +kernel
theorem d_M_apply_26 : decode cc_M_apply 26 = .ok (.iadd, 1) := by decide +kernel
theorem d_M_apply_27 : decode cc_M_apply 27 = .ok (.iload 4, 2) := by decide +kernel
theorem d_M_apply_29 : decode cc_M_apply 29 = .ok (.iastore, 1) := by decide +kernel
theorem d_M_apply_30 : decode cc_M_apply 30 = .ok (.aload_n 0, 1) := by decide +kernel
theorem d_M_apply_31 : decode cc_M_apply 31 = .ok (.getfield 28, 3) := by decide +kernel
theorem d_M_apply_34 : decode cc_M_apply 34 = .ok (.bipush 20, 2) := by decide +kernel
theorem d_M_apply_36 : decode cc_M_apply 36 = .ok (.iload_n 1, 1) := by decide +kernel
theorem d_M_apply_37 : decode cc_M_apply 37 = .ok (.imul, 1) := by decide +kernel
theorem d_M_apply_38 : decode cc_M_apply 38 = .ok (.iload_n 3, 1) := by decide +kernel
theorem d_M_apply_39 : decode cc_M_apply 39 = .ok (.iadd, 1) := by decide +kernel
theorem d_M_apply_40 : decode cc_M_apply 40 = .ok (.iconst (-1), 1) := by decide +kernel
theorem d_M_apply_41 : decode cc_M_apply 41 = .ok (.iastore, 1) := by decide +kernel
theorem d_M_apply_42 : decode cc_M_apply 42 = .ok (.goto 200, 3) := by decide +kernel
theorem d_M_apply_45 : decode cc_M_apply 45 = .ok (.iload_n 2, 1) := by decide +kernel
theorem d_M_apply_46 : decode cc_M_apply 46 = .ok (.iconst 1, 1) := by decide +kernel
theorem d_M_apply_47 : decode cc_M_apply 47 = .ok (.if_icmp .ne 19, 3) := by decide +kernel
theorem d_M_apply_50 : decode cc_M_apply 50 = .ok (.aload_n 0, 1) := by decide +kernel
theorem d_M_apply_51 : decode cc_M_apply 51 = .ok (.getfield 22, 3) := by decide +kernel
theorem d_M_apply_54 : decode cc_M_apply 54 = .ok (.bipush 20, 2) := by decide +kernel
theorem d_M_apply_56 : decode cc_M_apply 56 = .ok (.iload_n 1, 1) := by decide +kernel
theorem d_M_apply_57 : decode cc_M_apply 57 = .ok (.imul, 1) := by decide +kernel
theorem d_M_apply_58 : decode cc_M_apply 58 = .ok (.iload_n 3, 1) := by decide +kernel
theorem d_M_apply_59 : decode cc_M_apply 59 = .ok (.iadd, 1) := by decide +kernel
theorem d_M_apply_60 : decode cc_M_apply 60 = .ok (.iload 4, 2) := by decide +kernel
theorem d_M_apply_62 : decode cc_M_apply 62 = .ok (.iastore, 1) := by decide +kernel
theorem d_M_apply_63 : decode cc_M_apply 63 = .ok (.goto 179, 3) := by decide +kernel
theorem d_M_apply_66 : decode cc_M_apply 66 = .ok (.iload_n 2, 1) := by decide +kernel
theorem d_M_apply_67 : decode cc_M_apply 67 = .ok (.iconst 2, 1) := by decide +kernel
theorem d_M_apply_68 : decode cc_M_apply 68 = .ok (.if_icmp .ne 30, 3) := by decide +kernel
theorem d_M_apply_71 : decode cc_M_apply 71 = .ok (.aload_n 0, 1) := by decide +kernel
theorem d_M_apply_72 : decode cc_M_apply 72 = .ok (.getfield 22, 3) := by decide +kernel
theorem d_M_apply_75 : decode cc_M_apply 75 = .ok (.bipush 20, 2) := by decide +kernel
theorem d_M_apply_77 : decode cc_M_apply 77 = .ok (.iload_n 1, 1) := by decide +kernel
theorem d_M_apply_78 : decode cc_M_apply 78 = .ok (.imul, 1) := by decide +kernel
theorem d_M_apply_79 : decode cc_M_apply 79 = .ok (.iload_n 3, 1) := by decide +kernel
theorem d_M_apply_80 : decode cc_M_apply 80 = .ok (.iadd, 1) := by decide +kernel
theorem d_M_apply_81 : decode cc_M_apply 81 = .ok (.iconst (-1), 1) := by decide +kernel
theorem d_M_apply_82 : decode cc_M_apply 82 = .ok (.iastore, 1) := by decide +kernel
theorem d_M_apply_83 : decode cc_M_apply 83 = .ok (.aload_n 0, 1) := by decide +kernel
theorem d_M_apply_84 : decode cc_M_apply 84 = .ok (.getfield 28, 3) := by decide +kernel
theorem d_M_apply_87 : decode cc_M_apply 87 = .ok (.bipush 20, 2) := by decide +kernel
theorem d_M_apply_89 : decode cc_M_apply 89 = .ok (.iload_n 1, 1) := by decide +kernel
theorem d_M_apply_90 : decode cc_M_apply 90 = .ok (.imul, 1) := by decide +kernel
theorem d_M_apply_91 : decode cc_M_apply 91 = .ok (.iload_n 3, 1) := by decide +kernel
theorem d_M_apply_92 : decode cc_M_apply 92 = .ok (.iadd, 1) := by decide +kernel
theorem d_M_apply_93 : decode cc_M_apply 93 = .ok (.iconst (-1), 1) := by decide +kernel
theorem d_M_apply_94 : decode cc_M_apply 94 = .ok (.iastore, 1) := by decide +kernel
theorem d_M_apply_95 : decode cc_M_apply 95 = .ok (.goto 147, 3) := by decide +kernel
theorem d_M_apply_98 : decode cc_M_apply 98 = .ok (.iload_n 2, 1) := by decide +kernel
theorem d_M_apply_99 : decode cc_M_apply 99 = .ok (.iconst 3, 1) := by decide +kernel
theorem d_M_apply_100 : decode cc_M_apply 100 = .ok (.if_icmp .ne 44, 3) := by decide +kernel
theorem d_M_apply_103 : decode cc_M_apply 103 = .ok (.aload_n 0, 1) := by decide +kernel
theorem d_M_apply_104 : decode cc_M_apply 104 = .ok (.getfield 31, 3) := by decide +kernel
theorem d_M_apply_107 : decode cc_M_apply 107 = .ok (.bipush 10, 2) := by decide +kernel
theorem d_M_apply_109 : decode cc_M_apply 109 = .ok (.iload_n 1, 1) := by decide +kernel
theorem d_M_apply_110 : decode cc_M_apply 110 = .ok (.imul, 1) := by decide +kernel
theorem d_M_apply_111 : decode cc_M_apply 111 = .ok (.iload_n 3, 1) := by decide +kernel
theorem d_M_apply_112 : decode cc_M_apply 112 = .ok (.iadd, 1) := by decide +kernel
theorem d_M_apply_113 : decode cc_M_apply 113 = .ok (.iload 4, 2) := by decide +kernel
theorem d_M_apply_115 : decode cc_M_apply 115 = .ok (.iastore, 1) := by decide +kernel
theorem d_M_apply_116 : decode cc_M_apply 116 = .ok (.aload_n 0, 1) := by decide +kernel
theorem d_M_apply_117 : decode cc_M_apply 117 = .ok (.getfield 34, 3) := by decide +kernel
theorem d_M_apply_120 : decode cc_M_apply 120 = .ok (.bipush 10, 2) := by decide +kernel
theorem d_M_apply_122 : decode cc_M_apply 122 = .ok (.iload_n 1, 1) := by decide +kernel
theorem d_M_apply_123 : decode cc_M_apply 123 = .ok (.imul, 1) := by decide +kernel
theorem d_M_apply_124 : decode cc_M_apply 124 = .ok (.iload_n 3, 1) := by decide +kernel
theorem d_M_apply_125 : decode cc_M_apply 125 = .ok (.iadd, 1) := by decide +kernel
theorem d_M_apply_126 : decode cc_M_apply 126 = .ok (.iload 5, 2) := by decide +kernel
theorem d_M_apply_128 : decode cc_M_apply 128 = .ok (.iastore, 1) := by decide +kernel
theorem d_M_apply_129 : decode cc_M_apply 129 = .ok (.aload_n 0, 1) := by decide +kernel
theorem d_M_apply_130 : decode cc_M_apply 130 = .ok (.getfield 37, 3) := by decide +kernel
theorem d_M_apply_133 : decode cc_M_apply 133 = .ok (.bipush 10, 2) := by decide +kernel
theorem d_M_apply_135 : decode cc_M_apply 135 = .ok (.iload_n 1, 1) := by decide +kernel
theorem d_M_apply_136 : decode cc_M_apply 136 = .ok (.imul, 1) := by decide +kernel
theorem d_M_apply_137 : decode cc_M_apply 137 = .ok (.iload_n 3, 1) := by decide +kernel
theorem d_M_apply_138 : decode cc_M_apply 138 = .ok (.iadd, 1) := by decide +kernel
theorem d_M_apply_139 : decode cc_M_apply 139 = .ok (.iconst 0, 1) := by decide +kernel
theorem d_M_apply_140 : decode cc_M_apply 140 = .ok (.iastore, 1) := by decide +kernel
theorem d_M_apply_141 : decode cc_M_apply 141 = .ok (.goto 101, 3) := by decide +kernel
theorem d_M_apply_144 : decode cc_M_apply 144 = .ok (.iload_n 2, 1) := by decide +kernel
theorem d_M_apply_145 : decode cc_M_apply 145 = .ok (.iconst 4, 1) := by decide +kernel
theorem d_M_apply_146 : decode cc_M_apply 146 = .ok (.if_icmp .ne 35, 3) := by decide +kernel
theorem d_M_apply_149 : decode cc_M_apply 149 = .ok (.aload_n 0, 1) := by decide +kernel
theorem d_M_apply_150 : decode cc_M_apply 150 = .ok (.getfield 28, 3) := by decide +kernel
theorem d_M_apply_153 : decode cc_M_apply 153 = .ok (.bipush 20, 2) := by decide +kernel
theorem d_M_apply_155 : decode cc_M_apply 155 = .ok (.iload_n 1, 1) := by decide +kernel
theorem d_M_apply_156 : decode cc_M_apply 156 = .ok (.imul, 1) := by decide +kernel
theorem d_M_apply_157 : decode cc_M_apply 157 = .ok (.iload_n 3, 1) := by decide +kernel
theorem d_M_apply_158 : decode cc_M_apply 158 = .ok (.iadd, 1) := by decide +kernel
theorem d_M_apply_159 : decode cc_M_apply 159 = .ok (.iload 4, 2) := by decide +kernel
theorem d_M_apply_161 : decode cc_M_apply 161 = .ok (.iastore, 1) := by decide +kernel
theorem d_M_apply_162 : decode cc_M_apply 162 = .ok (.aload_n 0, 1) := by decide +kernel
theorem d_M_apply_163 : decode cc_M_apply 163 = .ok (.getfield 37, 3) := by decide +kernel
theorem d_M_apply_166 : decode cc_M_apply 166 = .ok (.bipush 10, 2) := by decide +kernel
theorem d_M_apply_168 : decode cc_M_apply 168 = .ok (.iload_n 1, 1) := by decide +kernel
theorem d_M_apply_169 : decode cc_M_apply 169 = .ok (.imul, 1) := by decide +kernel
theorem d_M_apply_170 : decode cc_M_apply 170 = .ok (.iload 4, 2) := by decide +kernel
theorem d_M_apply_172 : decode cc_M_apply 172 = .ok (.iadd, 1) := by decide +kernel
theorem d_M_apply_173 : decode cc_M_apply 173 = .ok (.dup2, 1) := by decide +kernel
theorem d_M_apply_174 : decode cc_M_apply 174 = .ok (.iaload, 1) := by decide +kernel
theorem d_M_apply_175 : decode cc_M_apply 175 = .ok (.iconst 1, 1) := by decide +kernel
theorem d_M_apply_176 : decode cc_M_apply 176 = .ok (.iadd, 1) := by decide +kernel
theorem d_M_apply_177 : decode cc_M_apply 177 = .ok (.iastore, 1) := by decide +kernel
theorem d_M_apply_178 : decode cc_M_apply 178 = .ok (.goto 64, 3) := by decide +kernel
theorem d_M_apply_181 : decode cc_M_apply 181 = .ok (.iload_n 2, 1) := by decide +kernel
theorem d_M_apply_182 : decode cc_M_apply 182 = .ok (.iconst 5, 1) := by decide +kernel
theorem d_M_apply_183 : decode cc_M_apply 183 = .ok (.if_icmp .ne 21, 3) := by decide +kernel
theorem d_M_apply_186 : decode cc_M_apply 186 = .ok (.aload_n 0, 1) := by decide +kernel
theorem d_M_apply_187 : decode cc_M_apply 187 = .ok (.getfield 40, 3) := by decide +kernel
theorem d_M_apply_190 : decode cc_M_apply 190 = .ok (.iconst 4, 1) := by decide +kernel
theorem d_M_apply_191 : decode cc_M_apply 191 = .ok (.iload_n 1, 1) := by decide +kernel
theorem d_M_apply_192 : decode cc_M_apply 192 = .ok (.imul, 1) := by decide +kernel
theorem d_M_apply_193 : decode cc_M_apply 193 = .ok (.iload_n 3, 1) := by decide +kernel
theorem d_M_apply_194 : decode cc_M_apply 194 = .ok (.iadd, 1) := by decide +kernel
theorem d_M_apply_195 : decode cc_M_apply 195 = .ok (.dup2, 1) := by decide +kernel
theorem d_M_apply_196 : decode cc_M_apply 196 = .ok (.iaload, 1) := by decide +kernel
theorem d_M_apply_197 : decode cc_M_apply 197 = .ok (.iload 4, 2) := by decide +kernel
theorem d_M_apply_199 : decode cc_M_apply 199 = .ok (.iadd, 1) := by decide +kernel
theorem d_M_apply_200 : decode cc_M_apply 200 = .ok (.iastore, 1) := by decide +kernel
theorem d_M_apply_201 : decode cc_M_apply 201 = .ok (.goto 41, 3) := by decide +kernel
theorem d_M_apply_204 : decode cc_M_apply 204 = .ok (.aload_n 0, 1) := by decide +kernel
theorem d_M_apply_205 : decode cc_M_apply 205 = .ok (.getfield 43, 3) := by decide +kernel
theorem d_M_apply_208 : decode cc_M_apply 208 = .ok (.bipush 100, 2) := by decide +kernel
theorem d_M_apply_210 : decode cc_M_apply 210 = .ok (.iload_n 1, 1) := by decide +kernel
theorem d_M_apply_211 : decode cc_M_apply 211 = .ok (.imul, 1) := by decide +kernel
theorem d_M_apply_212 : decode cc_M_apply 212 = .ok (.bipush 10, 2) := by decide +kernel
theorem d_M_apply_214 : decode cc_M_apply 214 = .ok (.iload_n 3, 1) := by decide +kernel
theorem d_M_apply_215 : decode cc_M_apply 215 = .ok (.imul, 1) := by decide +kernel
theorem d_M_apply_216 : decode cc_M_apply 216 = .ok (.iadd, 1) := by decide +kernel
theorem d_M_apply_217 : decode cc_M_apply 217 = .ok (.iload 4, 2) := by decide +kernel
theorem d_M_apply_219 : decode cc_M_apply 219 = .ok (.iadd, 1) := by decide +kernel
theorem d_M_apply_220 : decode cc_M_apply 220 = .ok (.iload 5, 2) := by decide +kernel
theorem d_M_apply_222 : decode cc_M_apply 222 = .ok (.iastore, 1) := by decide +kernel
theorem d_M_apply_223 : decode cc_M_apply 223 = .ok (.aload_n 0, 1) := by decide +kernel
theorem d_M_apply_224 : decode cc_M_apply 224 = .ok (.getfield 43, 3) := by decide +kernel
theorem d_M_apply_227 : decode cc_M_apply 227 = .ok (.bipush 100, 2) := by decide +kernel
theorem d_M_apply_229 : decode cc_M_apply 229 = .ok (.iload_n 1, 1) := by decide +kernel
theorem d_M_apply_230 : decode cc_M_apply 230 = .ok (.imul, 1) := by decide +kernel
theorem d_M_apply_231 : decode cc_M_apply 231 = .ok (.bipush 10, 2) := by decide +kernel
theorem d_M_apply_233 : decode cc_M_apply 233 = .ok (.iload 4, 2) := by decide +kernel
theorem d_M_apply_235 : decode cc_M_apply 235 = .ok (.imul, 1) := by decide +kernel
theorem d_M_apply_236 : decode cc_M_apply 236 = .ok (.iadd, 1) := by decide +kernel
theorem d_M_apply_237 : decode cc_M_apply 237 = .ok (.iload_n 3, 1) := by decide +kernel
theorem d_M_apply_238 : decode cc_M_apply 238 = .ok (.iadd, 1) := by decide +kernel
theorem d_M_apply_239 : decode cc_M_apply 239 = .ok (.iload 5, 2) := by decide +kernel
theorem d_M_apply_241 : decode cc_M_apply 241 = .ok (.iastore, 1) := by decide +kernel
theorem d_M_apply_242 : decode cc_M_apply 242 = .ok (.return_, 1) := by decide +kernel
theorem d_M_event_0 : decode cc_M_event 0 = .ok (.aload_n 0, 1) := by decide +kernel
theorem d_M_event_1 : decode cc_M_event 1 = .ok (.iload_n 1, 1) := by decide +kernel
theorem d_M_event_2 : decode cc_M_event 2 = .ok (.iload_n 2, 1) := by decide +kernel
theorem d_M_event_3 : decode cc_M_event 3 = .ok (.iload_n 3, 1) := by decide +kernel
theorem d_M_event_4 : decode cc_M_event 4 = .ok (.iload 4, 2) := by decide +kernel
theorem d_M_event_6 : decode cc_M_event 6 = .ok (.invokestatic 83, 3) := by decide +kernel
theorem d_M_event_9 : decode cc_M_event 9 = .ok (.ifCond .ne 7, 3) := by decide +kernel
theorem d_M_event_12 : decode cc_M_event 12 = .ok (.iconst 1, 1) := by decide +kernel
theorem d_M_event_13 : decode cc_M_event 13 = .ok (.goto 17, 3) := by decide +kernel
theorem d_M_event_16 : decode cc_M_event 16 = .ok (.aload_n 0, 1) := by decide +kernel
theorem d_M_event_17 : decode cc_M_event 17 = .ok (.getfield 63, 3) := by decide +kernel
theorem d_M_event_20 : decode cc_M_event 20 = .ok (.bipush 60, 2) := by decide +kernel
theorem d_M_event_22 : decode cc_M_event 22 = .ok (.if_icmp .ne 7, 3) := by decide +kernel
theorem d_M_event_25 : decode cc_M_event 25 = .ok (.iconst 2, 1) := by decide +kernel
theorem d_M_event_26 : decode cc_M_event 26 = .ok (.goto 4, 3) := by decide +kernel
theorem d_M_event_29 : decode cc_M_event 29 = .ok (.iconst 0, 1) := by decide +kernel
theorem d_M_event_30 : decode cc_M_event 30 = .ok (.putfield 55, 3) := by decide +kernel
theorem d_M_event_33 : decode cc_M_event 33 = .ok (.aload_n 0, 1) := by decide +kernel
theorem d_M_event_34 : decode cc_M_event 34 = .ok (.getfield 55, 3) := by decide +kernel
theorem d_M_event_37 : decode cc_M_event 37 = .ok (.ifCond .le 5, 3) := by decide +kernel
theorem d_M_event_40 : decode cc_M_event 40 = .ok (.iconst 0, 1) := by decide +kernel
theorem d_M_event_41 : decode cc_M_event 41 = .ok (.ireturn, 1) := by decide +kernel
theorem d_M_event_42 : decode cc_M_event 42 = .ok (.aload_n 0, 1) := by decide +kernel
theorem d_M_event_43 : decode cc_M_event 43 = .ok (.aload_n 0, 1) := by decide +kernel
theorem d_M_event_44 : decode cc_M_event 44 = .ok (.getfield 63, 3) := by decide +kernel
theorem d_M_event_47 : decode cc_M_event 47 = .ok (.iload_n 1, 1) := by decide +kernel
theorem d_M_event_48 : decode cc_M_event 48 = .ok (.iload_n 2, 1) := by decide +kernel
theorem d_M_event_49 : decode cc_M_event 49 = .ok (.iload_n 3, 1) := by decide +kernel
theorem d_M_event_50 : decode cc_M_event 50 = .ok (.invokevirtual 87, 3) := by decide +kernel
theorem d_M_event_53 : decode cc_M_event 53 = .ok (.ifCond .ne 15, 3) := by decide +kernel
theorem d_M_event_56 : decode cc_M_event 56 = .ok (.aload_n 0, 1) := by decide +kernel
theorem d_M_event_57 : decode cc_M_event 57 = .ok (.dup, 1) := by decide +kernel
theorem d_M_event_58 : decode cc_M_event 58 = .ok (.getfield 90, 3) := by decide +kernel
theorem d_M_event_61 : decode cc_M_event 61 = .ok (.iconst 1, 1) := by decide +kernel
theorem d_M_event_62 : decode cc_M_event 62 = .ok (.iadd, 1) := by decide +kernel
theorem d_M_event_63 : decode cc_M_event 63 = .ok (.putfield 90, 3) := by decide +kernel
theorem d_M_event_66 : decode cc_M_event 66 = .ok (.iconst 0, 1) := by decide +kernel
theorem d_M_event_67 : decode cc_M_event 67 = .ok (.ireturn, 1) := by decide +kernel
theorem d_M_event_68 : decode cc_M_event 68 = .ok (.aload_n 0, 1) := by decide +kernel
theorem d_M_event_69 : decode cc_M_event 69 = .ok (.getfield 7, 3) := by decide +kernel
theorem d_M_event_72 : decode cc_M_event 72 = .ok (.aload_n 0, 1) := by decide +kernel
theorem d_M_event_73 : decode cc_M_event 73 = .ok (.getfield 63, 3) := by decide +kernel
theorem d_M_event_76 : decode cc_M_event 76 = .ok (.iload_n 1, 1) := by decide +kernel
theorem d_M_event_77 : decode cc_M_event 77 = .ok (.iastore, 1) := by decide +kernel
theorem d_M_event_78 : decode cc_M_event 78 = .ok (.aload_n 0, 1) := by decide +kernel
theorem d_M_event_79 : decode cc_M_event 79 = .ok (.getfield 13, 3) := by decide +kernel
theorem d_M_event_82 : decode cc_M_event 82 = .ok (.aload_n 0, 1) := by decide +kernel
theorem d_M_event_83 : decode cc_M_event 83 = .ok (.getfield 63, 3) := by decide +kernel
theorem d_M_event_86 : decode cc_M_event 86 = .ok (.iload_n 2, 1) := by decide +kernel
theorem d_M_event_87 : decode cc_M_event 87 = .ok (.iastore, 1) := by decide +kernel
theorem d_M_event_88 : decode cc_M_event 88 = .ok (.aload_n 0, 1) := by decide +kernel
theorem d_M_event_89 : decode cc_M_event 89 = .ok (.getfield 16, 3) := by decide +kernel
theorem d_M_event_92 : decode cc_M_event 92 = .ok (.aload_n 0, 1) := by decide +kernel
theorem d_M_event_93 : decode cc_M_event 93 = .ok (.getfield 63, 3) := by decide +kernel
theorem d_M_event_96 : decode cc_M_event 96 = .ok (.iload_n 3, 1) := by decide +kernel
theorem d_M_event_97 : decode cc_M_event 97 = .ok (.iastore, 1) := by decide +kernel
theorem d_M_event_98 : decode cc_M_event 98 = .ok (.aload_n 0, 1) := by decide +kernel
theorem d_M_event_99 : decode cc_M_event 99 = .ok (.getfield 19, 3) := by decide +kernel
theorem d_M_event_102 : decode cc_M_event 102 = .ok (.aload_n 0, 1) := by decide +kernel
theorem d_M_event_103 : decode cc_M_event 103 = .ok (.getfield 63, 3) := by decide +kernel
theorem d_M_event_106 : decode cc_M_event 106 = .ok (.iload 4, 2) := by decide +kernel
theorem d_M_event_108 : decode cc_M_event 108 = .ok (.iastore, 1) := by decide +kernel
theorem d_M_event_109 : decode cc_M_event 109 = .ok (.aload_n 0, 1) := by decide +kernel
theorem d_M_event_110 : decode cc_M_event 110 = .ok (.aload_n 0, 1) := by decide +kernel
theorem d_M_event_111 : decode cc_M_event 111 = .ok (.getfield 63, 3) := by decide +kernel
theorem d_M_event_114 : decode cc_M_event 114 = .ok (.aload_n 0, 1) := by decide +kernel
theorem d_M_event_115 : decode cc_M_event 115 = .ok (.getfield 63, 3) := by decide +kernel
theorem d_M_event_118 : decode cc_M_event 118 = .ok (.iconst 1, 1) := by decide +kernel
theorem d_M_event_119 : decode cc_M_event 119 = .ok (.iadd, 1) := by decide +kernel
theorem d_M_event_120 : decode cc_M_event 120 = .ok (.invokevirtual 93, 3) := by decide +kernel
theorem d_M_event_123 : decode cc_M_event 123 = .ok (.aload_n 0, 1) := by decide +kernel
theorem d_M_event_124 : decode cc_M_event 124 = .ok (.dup, 1) := by decide +kernel
theorem d_M_event_125 : decode cc_M_event 125 = .ok (.getfield 63, 3) := by decide +kernel
theorem d_M_event_128 : decode cc_M_event 128 = .ok (.iconst 1, 1) := by decide +kernel
theorem d_M_event_129 : decode cc_M_event 129 = .ok (.iadd, 1) := by decide +kernel
theorem d_M_event_130 : decode cc_M_event 130 = .ok (.putfield 63, 3) := by decide +kernel
theorem d_M_event_133 : decode cc_M_event 133 = .ok (.aload_n 0, 1) := by decide +kernel
theorem d_M_event_134 : decode cc_M_event 134 = .ok (.aload_n 0, 1) := by decide +kernel
theorem d_M_event_135 : decode cc_M_event 135 = .ok (.getfield 63, 3) := by decide +kernel
theorem d_M_event_138 : decode cc_M_event 138 = .ok (.iload_n 1, 1) := by decide +kernel
theorem d_M_event_139 : decode cc_M_event 139 = .ok (.iload_n 2, 1) := by decide +kernel
theorem d_M_event_140 : decode cc_M_event 140 = .ok (.iload_n 3, 1) := by decide +kernel
theorem d_M_event_141 : decode cc_M_event 141 = .ok (.iload 4, 2) := by decide +kernel
theorem d_M_event_143 : decode cc_M_event 143 = .ok (.invokevirtual 97, 3) := by decide +kernel
theorem d_M_event_146 : decode cc_M_event 146 = .ok (.iconst 1, 1) := by decide +kernel
theorem d_M_event_147 : decode cc_M_event 147 = .ok (.ireturn, 1) := by decide +kernel
theorem d_M_back_0 : decode cc_M_back 0 = .ok (.aload_n 0, 1) := by decide +kernel
theorem d_M_back_1 : decode cc_M_back 1 = .ok (.aload_n 0, 1) := by decide +kernel
theorem d_M_back_2 : decode cc_M_back 2 = .ok (.getfield 63, 3) := by decide +kernel
theorem d_M_back_5 : decode cc_M_back 5 = .ok (.ifCond .ne 7, 3) := by decide +kernel
theorem d_M_back_8 : decode cc_M_back 8 = .ok (.iconst 1, 1) := by decide +kernel
theorem d_M_back_9 : decode cc_M_back 9 = .ok (.goto 4, 3) := by decide +kernel
theorem d_M_back_12 : decode cc_M_back 12 = .ok (.iconst 0, 1) := by decide +kernel
theorem d_M_back_13 : decode cc_M_back 13 = .ok (.putfield 55, 3) := by decide +kernel
theorem d_M_back_16 : decode cc_M_back 16 = .ok (.aload_n 0, 1) := by decide +kernel
theorem d_M_back_17 : decode cc_M_back 17 = .ok (.getfield 55, 3) := by decide +kernel
theorem d_M_back_20 : decode cc_M_back 20 = .ok (.ifCond .ne 13, 3) := by decide +kernel
theorem d_M_back_23 : decode cc_M_back 23 = .ok (.aload_n 0, 1) := by decide +kernel
theorem d_M_back_24 : decode cc_M_back 24 = .ok (.dup, 1) := by decide +kernel
theorem d_M_back_25 : decode cc_M_back 25 = .ok (.getfield 63, 3) := by decide +kernel
theorem d_M_back_28 : decode cc_M_back 28 = .ok (.iconst 1, 1) := by decide +kernel
theorem d_M_back_29 : decode cc_M_back 29 = .ok (.isub, 1) := by decide +kernel
theorem d_M_back_30 : decode cc_M_back 30 = .ok (.putfield 63, 3) := by decide +kernel
theorem d_M_back_33 : decode cc_M_back 33 = .ok (.return_, 1) := by decide +kernel
theorem d_M_stock_0 : decode cc_M_stock 0 = .ok (.aload_n 0, 1) := by decide +kernel
theorem d_M_stock_1 : decode cc_M_stock 1 = .ok (.iload_n 1, 1) := by decide +kernel
theorem d_M_stock_2 : decode cc_M_stock 2 = .ok (.iconst (-1), 1) := by decide +kernel
theorem d_M_stock_3 : decode cc_M_stock 3 = .ok (.bipush 9, 2) := by decide +kernel
theorem d_M_stock_5 : decode cc_M_stock 5 = .ok (.invokestatic 59, 3) := by decide +kernel
theorem d_M_stock_8 : decode cc_M_stock 8 = .ok (.ifCond .eq 12, 3) := by decide +kernel
theorem d_M_stock_11 : decode cc_M_stock 11 = .ok (.iload_n 2, 1) := by decide +kernel
theorem d_M_stock_12 : decode cc_M_stock 12 = .ok (.iconst (-1), 1) := by decide +kernel
theorem d_M_stock_13 : decode cc_M_stock 13 = .ok (.iconst 5, 1) := by decide +kernel
theorem d_M_stock_14 : decode cc_M_stock 14 = .ok (.invokestatic 59, 3) := by decide +kernel
theorem d_M_stock_17 : decode cc_M_stock 17 = .ok (.ifCond .ne 7, 3) := by decide +kernel
theorem d_M_stock_20 : decode cc_M_stock 20 = .ok (.iconst 1, 1) := by decide +kernel
theorem d_M_stock_21 : decode cc_M_stock 21 = .ok (.goto 4, 3) := by decide +kernel
theorem d_M_stock_24 : decode cc_M_stock 24 = .ok (.iconst 0, 1) := by decide +kernel
theorem d_M_stock_25 : decode cc_M_stock 25 = .ok (.putfield 55, 3) := by decide +kernel
theorem d_M_stock_28 : decode cc_M_stock 28 = .ok (.iconst 0, 1) := by decide +kernel
theorem d_M_stock_29 : decode cc_M_stock 29 = .ok (.istore_n 3, 1) := by decide +kernel
theorem d_M_stock_30 : decode cc_M_stock 30 = .ok (.iconst 0, 1) := by decide +kernel
theorem d_M_stock_31 : decode cc_M_stock 31 = .ok (.istore 4, 2) := by decide +kernel
theorem d_M_stock_33 : decode cc_M_stock 33 = .ok (.iload 4, 2) := by decide +kernel
theorem d_M_stock_35 : decode cc_M_stock 35 = .ok (.bipush 20, 2) := by decide +kernel
theorem d_M_stock_37 : decode cc_M_stock 37 = .ok (.if_icmp .ge 80, 3) := by decide +kernel
theorem d_M_stock_40 : decode cc_M_stock 40 = .ok (.aload_n 0, 1) := by decide +kernel
theorem d_M_stock_41 : decode cc_M_stock 41 = .ok (.getfield 55, 3) := by decide +kernel
theorem d_M_stock_44 : decode cc_M_stock 44 = .ok (.ifCond .ne 73, 3) := by decide +kernel
theorem d_M_stock_47 : decode cc_M_stock 47 = .ok (.aload_n 0, 1) := by decide +kernel
theorem d_M_stock_48 : decode cc_M_stock 48 = .ok (.getfield 22, 3) := by decide +kernel
theorem d_M_stock_51 : decode cc_M_stock 51 = .ok (.bipush 20, 2) := by decide +kernel
theorem d_M_stock_53 : decode cc_M_stock 53 = .ok (.aload_n 0, 1) := by decide +kernel
theorem d_M_stock_54 : decode cc_M_stock 54 = .ok (.getfield 63, 3) := by decide +kernel
theorem d_M_stock_57 : decode cc_M_stock 57 = .ok (.imul, 1) := by decide +kernel
theorem d_M_stock_58 : decode cc_M_stock 58 = .ok (.iload 4, 2) := by decide +kernel
theorem d_M_stock_60 : decode cc_M_stock 60 = .ok (.iadd, 1) := by decide +kernel
theorem d_M_stock_61 : decode cc_M_stock 61 = .ok (.iaload, 1) := by decide +kernel
theorem d_M_stock_62 : decode cc_M_stock 62 = .ok (.istore 5, 2) := by decide +kernel
theorem d_M_stock_64 : decode cc_M_stock 64 = .ok (.iload_n 3, 1) := by decide +kernel
theorem d_M_stock_65 : decode cc_M_stock 65 = .ok (.iload 5, 2) := by decide +kernel
theorem d_M_stock_67 : decode cc_M_stock 67 = .ok (.iconst (-1), 1) := by decide +kernel
theorem d_M_stock_68 : decode cc_M_stock 68 = .ok (.if_icmp .eq 40, 3) := by decide +kernel
theorem d_M_stock_71 : decode cc_M_stock 71 = .ok (.iload_n 1, 1) := by decide +kernel
theorem d_M_stock_72 : decode cc_M_stock 72 = .ok (.ifCond .lt 9, 3) := by decide +kernel
theorem d_M_stock_75 : decode cc_M_stock 75 = .ok (.iload 5, 2) := by decide +kernel
theorem d_M_stock_77 : decode cc_M_stock 77 = .ok (.iload_n 1, 1) := by decide +kernel
theorem d_M_stock_78 : decode cc_M_stock 78 = .ok (.if_icmp .ne 30, 3) := by decide +kernel
theorem d_M_stock_81 : decode cc_M_stock 81 = .ok (.iload_n 2, 1) := by decide +kernel
theorem d_M_stock_82 : decode cc_M_stock 82 = .ok (.ifCond .lt 22, 3) := by decide +kernel
theorem d_M_stock_85 : decode cc_M_stock 85 = .ok (.aload_n 0, 1) := by decide +kernel
theorem d_M_stock_86 : decode cc_M_stock 86 = .ok (.getfield 25, 3) := by decide +kernel
theorem d_M_stock_89 : decode cc_M_stock 89 = .ok (.bipush 20, 2) := by decide +kernel
theorem d_M_stock_91 : decode cc_M_stock 91 = .ok (.aload_n 0, 1) := by decide +kernel
theorem d_M_stock_92 : decode cc_M_stock 92 = .ok (.getfield 63, 3) := by decide +kernel
theorem d_M_stock_95 : decode cc_M_stock 95 = .ok (.imul, 1) := by decide +kernel
theorem d_M_stock_96 : decode cc_M_stock 96 = .ok (.iload 4, 2) := by decide +kernel
theorem d_M_stock_98 : decode cc_M_stock 98 = .ok (.iadd, 1) := by decide +kernel
theorem d_M_stock_99 : decode cc_M_stock 99 = .ok (.iaload, 1) := by decide +kernel
theorem d_M_stock_100 : decode cc_M_stock 100 = .ok (.iload_n 2, 1) := by decide +kernel
theorem d_M_stock_101 : decode cc_M_stock 101 = .ok (.if_icmp .ne 7, 3) := by decide +kernel
theorem d_M_stock_104 : decode cc_M_stock 104 = .ok (.iconst 1, 1) := by decide +kernel
theorem d_M_stock_105 : decode cc_M_stock 105 = .ok (.goto 4, 3) := by decide +kernel
theorem d_M_stock_108 : decode cc_M_stock 108 = .ok (.iconst 0, 1) := by decide +kernel
theorem d_M_stock_109 : decode cc_M_stock 109 = .ok (.iadd, 1) := by decide +kernel
theorem d_M_stock_110 : decode cc_M_stock 110 = .ok (.istore_n 3, 1) := by decide +kernel
theorem d_M_stock_111 : decode cc_M_stock 111 = .ok (.iinc 4 1, 3) := by decide +kernel
theorem d_M_stock_114 : decode cc_M_stock 114 = .ok (.goto (-81), 3) := by decide +kernel
theorem d_M_stock_117 : decode cc_M_stock 117 = .ok (.iload_n 3, 1) := by decide +kernel
theorem d_M_stock_118 : decode cc_M_stock 118 = .ok (.ireturn, 1) := by decide +kernel
theorem d_M_where_0 : decode cc_M_where 0 = .ok (.aload_n 0, 1) := by decide +kernel
theorem d_M_where_1 : decode cc_M_where 1 = .ok (.iload_n 2, 1) := by decide +kernel
theorem d_M_where_2 : decode cc_M_where 2 = .ok (.iconst 0, 1) := by decide +kernel
theorem d_M_where_3 : decode cc_M_where 3 = .ok (.aload_n 0, 1) := by decide +kernel
theorem d_M_where_4 : decode cc_M_where 4 = .ok (.getfield 63, 3) := by decide +kernel
theorem d_M_where_7 : decode cc_M_where 7 = .ok (.invokestatic 59, 3) := by decide +kernel
theorem d_M_where_10 : decode cc_M_where 10 = .ok (.ifCond .ne 7, 3) := by decide +kernel
theorem d_M_where_13 : decode cc_M_where 13 = .ok (.iconst 1, 1) := by decide +kernel
theorem d_M_where_14 : decode cc_M_where 14 = .ok (.goto 15, 3) := by decide +kernel
theorem d_M_where_17 : decode cc_M_where 17 = .ok (.iload_n 1, 1) := by decide +kernel
theorem d_M_where_18 : decode cc_M_where 18 = .ok (.invokestatic 66, 3) := by decide +kernel
theorem d_M_where_21 : decode cc_M_where 21 = .ok (.ifCond .ne 7, 3) := by decide +kernel
theorem d_M_where_24 : decode cc_M_where 24 = .ok (.iconst 2, 1) := by decide +kernel
theorem d_M_where_25 : decode cc_M_where 25 = .ok (.goto 4, 3) := by decide +kernel
theorem d_M_where_28 : decode cc_M_where 28 = .ok (.iconst 0, 1) := by decide +kernel
theorem d_M_where_29 : decode cc_M_where 29 = .ok (.putfield 55, 3) := by decide +kernel
theorem d_M_where_32 : decode cc_M_where 32 = .ok (.aload_n 0, 1) := by decide +kernel
theorem d_M_where_33 : decode cc_M_where 33 = .ok (.getfield 55, 3) := by decide +kernel
theorem d_M_where_36 : decode cc_M_where 36 = .ok (.ifCond .le 7, 3) := by decide +kernel
theorem d_M_where_39 : decode cc_M_where 39 = .ok (.iconst 0, 1) := by decide +kernel
theorem d_M_where_40 : decode cc_M_where 40 = .ok (.goto 14, 3) := by decide +kernel
theorem d_M_where_43 : decode cc_M_where 43 = .ok (.aload_n 0, 1) := by decide +kernel
theorem d_M_where_44 : decode cc_M_where 44 = .ok (.getfield 22, 3) := by decide +kernel
theorem d_M_where_47 : decode cc_M_where 47 = .ok (.bipush 20, 2) := by decide +kernel
theorem d_M_where_49 : decode cc_M_where 49 = .ok (.iload_n 2, 1) := by decide +kernel
theorem d_M_where_50 : decode cc_M_where 50 = .ok (.imul, 1) := by decide +kernel
theorem d_M_where_51 : decode cc_M_where 51 = .ok (.iload_n 1, 1) := by decide +kernel
theorem d_M_where_52 : decode cc_M_where 52 = .ok (.iadd, 1) := by decide +kernel
theorem d_M_where_53 : decode cc_M_where 53 = .ok (.iaload, 1) := by decide +kernel
theorem d_M_where_54 : decode cc_M_where 54 = .ok (.ireturn, 1) := by decide +kernel
theorem d_M_money_0 : decode cc_M_money 0 = .ok (.aload_n 0, 1) := by decide +kernel
theorem d_M_money_1 : decode cc_M_money 1 = .ok (.iload_n 2, 1) := by decide +kernel
theorem d_M_money_2 : decode cc_M_money 2 = .ok (.iconst 0, 1) := by decide +kernel
theorem d_M_money_3 : decode cc_M_money 3 = .ok (.aload_n 0, 1) := by decide +kernel
theorem d_M_money_4 : decode cc_M_money 4 = .ok (.getfield 63, 3) := by decide +kernel
theorem d_M_money_7 : decode cc_M_money 7 = .ok (.invokestatic 59, 3) := by decide +kernel
theorem d_M_money_10 : decode cc_M_money 10 = .ok (.ifCond .ne 7, 3) := by decide +kernel
theorem d_M_money_13 : decode cc_M_money 13 = .ok (.iconst 1, 1) := by decide +kernel
theorem d_M_money_14 : decode cc_M_money 14 = .ok (.goto 17, 3) := by decide +kernel
theorem d_M_money_17 : decode cc_M_money 17 = .ok (.iload_n 1, 1) := by decide +kernel
theorem d_M_money_18 : decode cc_M_money 18 = .ok (.iconst 0, 1) := by decide +kernel
theorem d_M_money_19 : decode cc_M_money 19 = .ok (.iconst 3, 1) := by decide +kernel
theorem d_M_money_20 : decode cc_M_money 20 = .ok (.invokestatic 59, 3) := by decide +kernel
theorem d_M_money_23 : decode cc_M_money 23 = .ok (.ifCond .ne 7, 3) := by decide +kernel
theorem d_M_money_26 : decode cc_M_money 26 = .ok (.iconst 2, 1) := by decide +kernel
theorem d_M_money_27 : decode cc_M_money 27 = .ok (.goto 4, 3) := by decide +kernel
theorem d_M_money_30 : decode cc_M_money 30 = .ok (.iconst 0, 1) := by decide +kernel
theorem d_M_money_31 : decode cc_M_money 31 = .ok (.putfield 55, 3) := by decide +kernel
theorem d_M_money_34 : decode cc_M_money 34 = .ok (.aload_n 0, 1) := by decide +kernel
theorem d_M_money_35 : decode cc_M_money 35 = .ok (.getfield 55, 3) := by decide +kernel
theorem d_M_money_38 : decode cc_M_money 38 = .ok (.ifCond .le 7, 3) := by decide +kernel
theorem d_M_money_41 : decode cc_M_money 41 = .ok (.iconst 0, 1) := by decide +kernel
theorem d_M_money_42 : decode cc_M_money 42 = .ok (.goto 13, 3) := by decide +kernel
theorem d_M_money_45 : decode cc_M_money 45 = .ok (.aload_n 0, 1) := by decide +kernel
theorem d_M_money_46 : decode cc_M_money 46 = .ok (.getfield 40, 3) := by decide +kernel
theorem d_M_money_49 : decode cc_M_money 49 = .ok (.iconst 4, 1) := by decide +kernel
theorem d_M_money_50 : decode cc_M_money 50 = .ok (.iload_n 2, 1) := by decide +kernel
theorem d_M_money_51 : decode cc_M_money 51 = .ok (.imul, 1) := by decide +kernel
theorem d_M_money_52 : decode cc_M_money 52 = .ok (.iload_n 1, 1) := by decide +kernel
theorem d_M_money_53 : decode cc_M_money 53 = .ok (.iadd, 1) := by decide +kernel
theorem d_M_money_54 : decode cc_M_money 54 = .ok (.iaload, 1) := by decide +kernel
theorem d_M_money_55 : decode cc_M_money 55 = .ok (.ireturn, 1) := by decide +kernel
theorem d_M_freeOf_0 : decode cc_M_freeOf 0 = .ok (.iconst 0, 1) := by decide +kernel
theorem d_M_freeOf_1 : decode cc_M_freeOf 1 = .ok (.istore_n 2, 1) := by decide +kernel
theorem d_M_freeOf_2 : decode cc_M_freeOf 2 = .ok (.iconst 0, 1) := by decide +kernel
theorem d_M_freeOf_3 : decode cc_M_freeOf 3 = .ok (.istore_n 3, 1) := by decide +kernel
theorem d_M_freeOf_4 : decode cc_M_freeOf 4 = .ok (.iload_n 3, 1) := by decide +kernel
theorem d_M_freeOf_5 : decode cc_M_freeOf 5 = .ok (.bipush 20, 2) := by decide +kernel
theorem d_M_freeOf_7 : decode cc_M_freeOf 7 = .ok (.if_icmp .ge 71, 3) := by decide +kernel
theorem d_M_freeOf_10 : decode cc_M_freeOf 10 = .ok (.iload_n 2, 1) := by decide +kernel
theorem d_M_freeOf_11 : decode cc_M_freeOf 11 = .ok (.aload_n 0, 1) := by decide +kernel
theorem d_M_freeOf_12 : decode cc_M_freeOf 12 = .ok (.getfield 22, 3) := by decide +kernel
theorem d_M_freeOf_15 : decode cc_M_freeOf 15 = .ok (.bipush 20, 2) := by decide +kernel
theorem d_M_freeOf_17 : decode cc_M_freeOf 17 = .ok (.aload_n 0, 1) := by decide +kernel
theorem d_M_freeOf_18 : decode cc_M_freeOf 18 = .ok (.getfield 63, 3) := by decide +kernel
theorem d_M_freeOf_21 : decode cc_M_freeOf 21 = .ok (.imul, 1) := by decide +kernel
theorem d_M_freeOf_22 : decode cc_M_freeOf 22 = .ok (.iload_n 3, 1) := by decide +kernel
theorem d_M_freeOf_23 : decode cc_M_freeOf 23 = .ok (.iadd, 1) := by decide +kernel
theorem d_M_freeOf_24 : decode cc_M_freeOf 24 = .ok (.iaload, 1) := by decide +kernel
theorem d_M_freeOf_25 : decode cc_M_freeOf 25 = .ok (.iconst (-1), 1) := by decide +kernel
theorem d_M_freeOf_26 : decode cc_M_freeOf 26 = .ok (.if_icmp .eq 43, 3) := by decide +kernel
theorem d_M_freeOf_29 : decode cc_M_freeOf 29 = .ok (.aload_n 0, 1) := by decide +kernel
theorem d_M_freeOf_30 : decode cc_M_freeOf 30 = .ok (.getfield 28, 3) := by decide +kernel
theorem d_M_freeOf_33 : decode cc_M_freeOf 33 = .ok (.bipush 20, 2) := by decide +kernel
theorem d_M_freeOf_35 : decode cc_M_freeOf 35 = .ok (.aload_n 0, 1) := by decide +kernel
theorem d_M_freeOf_36 : decode cc_M_freeOf 36 = .ok (.getfield 63, 3) := by decide +kernel
theorem d_M_freeOf_39 : decode cc_M_freeOf 39 = .ok (.imul, 1) := by decide +kernel
theorem d_M_freeOf_40 : decode cc_M_freeOf 40 = .ok (.iload_n 3, 1) := by decide +kernel
theorem d_M_freeOf_41 : decode cc_M_freeOf 41 = .ok (.iadd, 1) := by decide +kernel
theorem d_M_freeOf_42 : decode cc_M_freeOf 42 = .ok (.iaload, 1) := by decide +kernel
theorem d_M_freeOf_43 : decode cc_M_freeOf 43 = .ok (.iconst (-1), 1) := by decide +kernel
theorem d_M_freeOf_44 : decode cc_M_freeOf 44 = .ok (.if_icmp .ne 25, 3) := by decide +kernel
theorem d_M_freeOf_47 : decode cc_M_freeOf 47 = .ok (.aload_n 0, 1) := by decide +kernel
theorem d_M_freeOf_48 : decode cc_M_freeOf 48 = .ok (.getfield 25, 3) := by decide +kernel
theorem d_M_freeOf_51 : decode cc_M_freeOf 51 = .ok (.bipush 20, 2) := by decide +kernel
theorem d_M_freeOf_53 : decode cc_M_freeOf 53 = .ok (.aload_n 0, 1) := by decide +kernel
theorem d_M_freeOf_54 : decode cc_M_freeOf 54 = .ok (.getfield 63, 3) := by decide +kernel
theorem d_M_freeOf_57 : decode cc_M_freeOf 57 = .ok (.imul, 1) := by decide +kernel
theorem d_M_freeOf_58 : decode cc_M_freeOf 58 = .ok (.iload_n 3, 1) := by decide +kernel
theorem d_M_freeOf_59 : decode cc_M_freeOf 59 = .ok (.iadd, 1) := by decide +kernel
theorem d_M_freeOf_60 : decode cc_M_freeOf 60 = .ok (.iaload, 1) := by decide +kernel
theorem d_M_freeOf_61 : decode cc_M_freeOf 61 = .ok (.iload_n 1, 1) := by decide +kernel
theorem d_M_freeOf_62 : decode cc_M_freeOf 62 = .ok (.if_icmp .ne 7, 3) := by decide +kernel
theorem d_M_freeOf_65 : decode cc_M_freeOf 65 = .ok (.iconst 1, 1) := by decide +kernel
theorem d_M_freeOf_66 : decode cc_M_freeOf 66 = .ok (.goto 4, 3) := by decide +kernel
theorem d_M_freeOf_69 : decode cc_M_freeOf 69 = .ok (.iconst 0, 1) := by decide +kernel
theorem d_M_freeOf_70 : decode cc_M_freeOf 70 = .ok (.iadd, 1) := by decide +kernel
theorem d_M_freeOf_71 : decode cc_M_freeOf 71 = .ok (.istore_n 2, 1) := by decide +kernel
theorem d_M_freeOf_72 : decode cc_M_freeOf 72 = .ok (.iinc 3 1, 3) := by decide +kernel
theorem d_M_freeOf_75 : decode cc_M_freeOf 75 = .ok (.goto (-71), 3) := by decide +kernel
theorem d_M_freeOf_78 : decode cc_M_freeOf 78 = .ok (.iload_n 2, 1) := by decide +kernel
theorem d_M_freeOf_79 : decode cc_M_freeOf 79 = .ok (.ireturn, 1) := by decide +kernel
theorem d_M_order_0 : decode cc_M_order 0 = .ok (.aload_n 0, 1) := by decide +kernel
theorem d_M_order_1 : decode cc_M_order 1 = .ok (.aload_n 0, 1) := by decide +kernel
theorem d_M_order_2 : decode cc_M_order 2 = .ok (.iload_n 1, 1) := by decide +kernel
theorem d_M_order_3 : decode cc_M_order 3 = .ok (.invokevirtual 101, 3) := by decide +kernel
theorem d_M_order_6 : decode cc_M_order 6 = .ok (.ifCond .ne 7, 3) := by decide +kernel
theorem d_M_order_9 : decode cc_M_order 9 = .ok (.iconst 1, 1) := by decide +kernel
theorem d_M_order_10 : decode cc_M_order 10 = .ok (.goto 17, 3) := by decide +kernel
theorem d_M_order_13 : decode cc_M_order 13 = .ok (.iload_n 2, 1) := by decide +kernel
theorem d_M_order_14 : decode cc_M_order 14 = .ok (.iconst 0, 1) := by decide +kernel
theorem d_M_order_15 : decode cc_M_order 15 = .ok (.iconst 3, 1) := by decide +kernel
theorem d_M_order_16 : decode cc_M_order 16 = .ok (.invokestatic 59, 3) := by decide +kernel
theorem d_M_order_19 : decode cc_M_order 19 = .ok (.ifCond .ne 7, 3) := by decide +kernel
theorem d_M_order_22 : decode cc_M_order 22 = .ok (.iconst 2, 1) := by decide +kernel
theorem d_M_order_23 : decode cc_M_order 23 = .ok (.goto 4, 3) := by decide +kernel
theorem d_M_order_26 : decode cc_M_order 26 = .ok (.iconst 0, 1) := by decide +kernel
theorem d_M_order_27 : decode cc_M_order 27 = .ok (.putfield 55, 3) := by decide +kernel
theorem d_M_order_30 : decode cc_M_order 30 = .ok (.aload_n 0, 1) := by decide +kernel
theorem d_M_order_31 : decode cc_M_order 31 = .ok (.getfield 55, 3) := by decide +kernel
theorem d_M_order_34 : decode cc_M_order 34 = .ok (.ifCond .le 5, 3) := by decide +kernel
theorem d_M_order_37 : decode cc_M_order 37 = .ok (.iconst 0, 1) := by decide +kernel
theorem d_M_order_38 : decode cc_M_order 38 = .ok (.ireturn, 1) := by decide +kernel
theorem d_M_order_39 : decode cc_M_order 39 = .ok (.bipush 10, 2) := by decide +kernel
theorem d_M_order_41 : decode cc_M_order 41 = .ok (.aload_n 0, 1) := by decide +kernel
theorem d_M_order_42 : decode cc_M_order 42 = .ok (.getfield 63, 3) := by decide +kernel
theorem d_M_order_45 : decode cc_M_order 45 = .ok (.imul, 1) := by decide +kernel
theorem d_M_order_46 : decode cc_M_order 46 = .ok (.iload_n 1, 1) := by decide +kernel
theorem d_M_order_47 : decode cc_M_order 47 = .ok (.iadd, 1) := by decide +kernel
theorem d_M_order_48 : decode cc_M_order 48 = .ok (.istore_n 3, 1) := by decide +kernel
theorem d_M_order_49 : decode cc_M_order 49 = .ok (.iload_n 2, 1) := by decide +kernel
theorem d_M_order_50 : decode cc_M_order 50 = .ok (.ifCond .ne 21, 3) := by decide +kernel
theorem d_M_order_53 : decode cc_M_order 53 = .ok (.aload_n 0, 1) := by decide +kernel
theorem d_M_order_54 : decode cc_M_order 54 = .ok (.aload_n 0, 1) := by decide +kernel
theorem d_M_order_55 : decode cc_M_order 55 = .ok (.getfield 63, 3) := by decide +kernel
theorem d_M_order_58 : decode cc_M_order 58 = .ok (.iload_n 1, 1) := by decide +kernel
theorem d_M_order_59 : decode cc_M_order 59 = .ok (.invokevirtual 73, 3) := by decide +kernel
theorem d_M_order_62 : decode cc_M_order 62 = .ok (.ifCond .eq 7, 3) := by decide +kernel
theorem d_M_order_65 : decode cc_M_order 65 = .ok (.iconst 0, 1) := by decide +kernel
theorem d_M_order_66 : decode cc_M_order 66 = .ok (.goto 4, 3) := by decide +kernel
theorem d_M_order_69 : decode cc_M_order 69 = .ok (.iconst 1, 1) := by decide +kernel
theorem d_M_order_70 : decode cc_M_order 70 = .ok (.ireturn, 1) := by decide +kernel
theorem d_M_order_71 : decode cc_M_order 71 = .ok (.iload_n 2, 1) := by decide +kernel
theorem d_M_order_72 : decode cc_M_order 72 = .ok (.iconst 1, 1) := by decide +kernel
theorem d_M_order_73 : decode cc_M_order 73 = .ok (.if_icmp .ne 12, 3) := by decide +kernel
theorem d_M_order_76 : decode cc_M_order 76 = .ok (.aload_n 0, 1) := by decide +kernel
theorem d_M_order_77 : decode cc_M_order 77 = .ok (.getfield 37, 3) := by decide +kernel
theorem d_M_order_80 : decode cc_M_order 80 = .ok (.iload_n 3, 1) := by decide +kernel
theorem d_M_order_81 : decode cc_M_order 81 = .ok (.iaload, 1) := by decide +kernel
theorem d_M_order_82 : decode cc_M_order 82 = .ok (.goto 27, 3) := by decide +kernel
theorem d_M_order_85 : decode cc_M_order 85 = .ok (.iload_n 2, 1) := by decide +kernel
theorem d_M_order_86 : decode cc_M_order 86 = .ok (.iconst 2, 1) := by decide +kernel
theorem d_M_order_87 : decode cc_M_order 87 = .ok (.if_icmp .ne 12, 3) := by decide +kernel
theorem d_M_order_90 : decode cc_M_order 90 = .ok (.aload_n 0, 1) := by decide +kernel
theorem d_M_order_91 : decode cc_M_order 91 = .ok (.getfield 34, 3) := by decide +kernel
theorem d_M_order_94 : decode cc_M_order 94 = .ok (.iload_n 3, 1) := by decide +kernel
theorem d_M_order_95 : decode cc_M_order 95 = .ok (.iaload, 1) := by decide +kernel
theorem d_M_order_96 : decode cc_M_order 96 = .ok (.goto 13, 3) := by decide +kernel
theorem d_M_order_99 : decode cc_M_order 99 = .ok (.aload_n 0, 1) := by decide +kernel
theorem d_M_order_100 : decode cc_M_order 100 = .ok (.aload_n 0, 1) := by decide +kernel
theorem d_M_order_101 : decode cc_M_order 101 = .ok (.getfield 34, 3) := by decide +kernel
theorem d_M_order_104 : decode cc_M_order 104 = .ok (.iload_n 3, 1) := by decide +kernel
theorem d_M_order_105 : decode cc_M_order 105 = .ok (.iaload, 1) := by decide +kernel
theorem d_M_order_106 : decode cc_M_order 106 = .ok (.invokevirtual 104, 3) := by decide +kernel
theorem d_M_order_109 : decode cc_M_order 109 = .ok (.ireturn, 1) := by decide +kernel
theorem d_M_filled_0 : decode cc_M_filled 0 = .ok (.aload_n 0, 1) := by decide +kernel
theorem d_M_filled_1 : decode cc_M_filled 1 = .ok (.iload_n 2, 1) := by decide +kernel
theorem d_M_filled_2 : decode cc_M_filled 2 = .ok (.invokevirtual 104, 3) := by decide +kernel
theorem d_M_filled_5 : decode cc_M_filled 5 = .ok (.istore_n 3, 1) := by decide +kernel
theorem d_M_filled_6 : decode cc_M_filled 6 = .ok (.iconst 0, 1) := by decide +kernel
theorem d_M_filled_7 : decode cc_M_filled 7 = .ok (.istore 4, 2) := by decide +kernel
theorem d_M_filled_9 : decode cc_M_filled 9 = .ok (.iconst 1, 1) := by decide +kernel
theorem d_M_filled_10 : decode cc_M_filled 10 = .ok (.istore 5, 2) := by decide +kernel
theorem d_M_filled_12 : decode cc_M_filled 12 = .ok (.iload 5, 2) := by decide +kernel
theorem d_M_filled_14 : decode cc_M_filled 14 = .ok (.bipush 10, 2) := by decide +kernel
theorem d_M_filled_16 : decode cc_M_filled 16 = .ok (.if_icmp .ge 94, 3) := by decide +kernel
theorem d_M_filled_19 : decode cc_M_filled 19 = .ok (.iconst 0, 1) := by decide +kernel
theorem d_M_filled_20 : decode cc_M_filled 20 = .ok (.istore 6, 2) := by decide +kernel
theorem d_M_filled_22 : decode cc_M_filled 22 = .ok (.iload 6, 2) := by decide +kernel
theorem d_M_filled_24 : decode cc_M_filled 24 = .ok (.bipush 10, 2) := by decide +kernel
theorem d_M_filled_26 : decode cc_M_filled 26 = .ok (.if_icmp .ge 78, 3) := by decide +kernel
theorem d_M_filled_29 : decode cc_M_filled 29 = .ok (.bipush 10, 2) := by decide +kernel
theorem d_M_filled_31 : decode cc_M_filled 31 = .ok (.aload_n 0, 1) := by decide +kernel
theorem d_M_filled_32 : decode cc_M_filled 32 = .ok (.getfield 63, 3) := by decide +kernel
theorem d_M_filled_35 : decode cc_M_filled 35 = .ok (.imul, 1) := by decide +kernel
theorem d_M_filled_36 : decode cc_M_filled 36 = .ok (.iload 6, 2) := by decide +kernel
theorem d_M_filled_38 : decode cc_M_filled 38 = .ok (.iadd, 1) := by decide +kernel
theorem d_M_filled_39 : decode cc_M_filled 39 = .ok (.istore 7, 2) := by decide +kernel
theorem d_M_filled_41 : decode cc_M_filled 41 = .ok (.iload_n 1, 1) := by decide +kernel
theorem d_M_filled_42 : decode cc_M_filled 42 = .ok (.iload 6, 2) := by decide +kernel
theorem d_M_filled_44 : decode cc_M_filled 44 = .ok (.ishr, 1) := by decide +kernel
theorem d_M_filled_45 : decode cc_M_filled 45 = .ok (.iconst 1, 1) := by decide +kernel
theorem d_M_filled_46 : decode cc_M_filled 46 = .ok (.iand, 1) := by decide +kernel
theorem d_M_filled_47 : decode cc_M_filled 47 = .ok (.ifCond .eq 51, 3) := by decide +kernel
theorem d_M_filled_50 : decode cc_M_filled 50 = .ok (.aload_n 0, 1) := by decide +kernel
theorem d_M_filled_51 : decode cc_M_filled 51 = .ok (.getfield 34, 3) := by decide +kernel
theorem d_M_filled_54 : decode cc_M_filled 54 = .ok (.iload 7, 2) := by decide +kernel
theorem d_M_filled_56 : decode cc_M_filled 56 = .ok (.iaload, 1) := by decide +kernel
theorem d_M_filled_57 : decode cc_M_filled 57 = .ok (.iload_n 2, 1) := by decide +kernel
theorem d_M_filled_58 : decode cc_M_filled 58 = .ok (.if_icmp .ne 40, 3) := by decide +kernel
theorem d_M_filled_61 : decode cc_M_filled 61 = .ok (.aload_n 0, 1) := by decide +kernel
theorem d_M_filled_62 : decode cc_M_filled 62 = .ok (.getfield 31, 3) := by decide +kernel
theorem d_M_filled_65 : decode cc_M_filled 65 = .ok (.iload 7, 2) := by decide +kernel
theorem d_M_filled_67 : decode cc_M_filled 67 = .ok (.iaload, 1) := by decide +kernel
theorem d_M_filled_68 : decode cc_M_filled 68 = .ok (.aload_n 0, 1) := by decide +kernel
theorem d_M_filled_69 : decode cc_M_filled 69 = .ok (.getfield 37, 3) := by decide +kernel
theorem d_M_filled_72 : decode cc_M_filled 72 = .ok (.iload 7, 2) := by decide +kernel
theorem d_M_filled_74 : decode cc_M_filled 74 = .ok (.iaload, 1) := by decide +kernel
theorem d_M_filled_75 : decode cc_M_filled 75 = .ok (.isub, 1) := by decide +kernel
theorem d_M_filled_76 : decode cc_M_filled 76 = .ok (.iload 5, 2) := by decide +kernel
theorem d_M_filled_78 : decode cc_M_filled 78 = .ok (.if_icmp .ne 20, 3) := by decide +kernel
theorem d_M_filled_81 : decode cc_M_filled 81 = .ok (.iload 5, 2) := by decide +kernel
theorem d_M_filled_83 : decode cc_M_filled 83 = .ok (.iload_n 3, 1) := by decide +kernel
theorem d_M_filled_84 : decode cc_M_filled 84 = .ok (.if_icmp .le 6, 3) := by decide +kernel
theorem d_M_filled_87 : decode cc_M_filled 87 = .ok (.goto 11, 3) := by decide +kernel
theorem d_M_filled_90 : decode cc_M_filled 90 = .ok (.iload_n 3, 1) := by decide +kernel
theorem d_M_filled_91 : decode cc_M_filled 91 = .ok (.iload 5, 2) := by decide +kernel
theorem d_M_filled_93 : decode cc_M_filled 93 = .ok (.isub, 1) := by decide +kernel
theorem d_M_filled_94 : decode cc_M_filled 94 = .ok (.istore_n 3, 1) := by decide +kernel
theorem d_M_filled_95 : decode cc_M_filled 95 = .ok (.iinc 4 1, 3) := by decide +kernel
theorem d_M_filled_98 : decode cc_M_filled 98 = .ok (.iinc 6 1, 3) := by decide +kernel
theorem d_M_filled_101 : decode cc_M_filled 101 = .ok (.goto (-79), 3) := by decide +kernel
theorem d_M_filled_104 : decode cc_M_filled 104 = .ok (.iinc 5 1, 3) := by decide +kernel
theorem d_M_filled_107 : decode cc_M_filled 107 = .ok (.goto (-95), 3) := by decide +kernel
theorem d_M_filled_110 : decode cc_M_filled 110 = .ok (.iload 4, 2) := by decide +kernel
theorem d_M_filled_112 : decode cc_M_filled 112 = .ok (.ireturn, 1) := by decide +kernel
theorem d_M_promise_0 : decode cc_M_promise 0 = .ok (.aload_n 0, 1) := by decide +kernel
theorem d_M_promise_1 : decode cc_M_promise 1 = .ok (.iload_n 1, 1) := by decide +kernel
theorem d_M_promise_2 : decode cc_M_promise 2 = .ok (.ifCond .lt 10, 3) := by decide +kernel
theorem d_M_promise_5 : decode cc_M_promise 5 = .ok (.iload_n 1, 1) := by decide +kernel
theorem d_M_promise_6 : decode cc_M_promise 6 = .ok (.bipush 10, 2) := by decide +kernel
theorem d_M_promise_8 : decode cc_M_promise 8 = .ok (.ishr, 1) := by decide +kernel
theorem d_M_promise_9 : decode cc_M_promise 9 = .ok (.ifCond .eq 7, 3) := by decide +kernel
theorem d_M_promise_12 : decode cc_M_promise 12 = .ok (.iconst 1, 1) := by decide +kernel
theorem d_M_promise_13 : decode cc_M_promise 13 = .ok (.goto 4, 3) := by decide +kernel
theorem d_M_promise_16 : decode cc_M_promise 16 = .ok (.iconst 0, 1) := by decide +kernel
theorem d_M_promise_17 : decode cc_M_promise 17 = .ok (.putfield 55, 3) := by decide +kernel
theorem d_M_promise_20 : decode cc_M_promise 20 = .ok (.iconst 0, 1) := by decide +kernel
theorem d_M_promise_21 : decode cc_M_promise 21 = .ok (.istore_n 2, 1) := by decide +kernel
theorem d_M_promise_22 : decode cc_M_promise 22 = .ok (.iconst 0, 1) := by decide +kernel
theorem d_M_promise_23 : decode cc_M_promise 23 = .ok (.istore_n 3, 1) := by decide +kernel
theorem d_M_promise_24 : decode cc_M_promise 24 = .ok (.iload_n 3, 1) := by decide +kernel
theorem d_M_promise_25 : decode cc_M_promise 25 = .ok (.bipush 10, 2) := by decide +kernel
theorem d_M_promise_27 : decode cc_M_promise 27 = .ok (.if_icmp .ge 47, 3) := by decide +kernel
theorem d_M_promise_30 : decode cc_M_promise 30 = .ok (.aload_n 0, 1) := by decide +kernel
theorem d_M_promise_31 : decode cc_M_promise 31 = .ok (.getfield 55, 3) := by decide +kernel
theorem d_M_promise_34 : decode cc_M_promise 34 = .ok (.ifCond .ne 40, 3) := by decide +kernel
theorem d_M_promise_37 : decode cc_M_promise 37 = .ok (.iload_n 1, 1) := by decide +kernel
theorem d_M_promise_38 : decode cc_M_promise 38 = .ok (.iload_n 3, 1) := by decide +kernel
theorem d_M_promise_39 : decode cc_M_promise 39 = .ok (.ishr, 1) := by decide +kernel
theorem d_M_promise_40 : decode cc_M_promise 40 = .ok (.iconst 1, 1) := by decide +kernel
theorem d_M_promise_41 : decode cc_M_promise 41 = .ok (.iand, 1) := by decide +kernel
theorem d_M_promise_42 : decode cc_M_promise 42 = .ok (.ifCond .ne 6, 3) := by decide +kernel
theorem d_M_promise_45 : decode cc_M_promise 45 = .ok (.goto 23, 3) := by decide +kernel
theorem d_M_promise_48 : decode cc_M_promise 48 = .ok (.aload_n 0, 1) := by decide +kernel
theorem d_M_promise_49 : decode cc_M_promise 49 = .ok (.aload_n 0, 1) := by decide +kernel
theorem d_M_promise_50 : decode cc_M_promise 50 = .ok (.iload_n 3, 1) := by decide +kernel
theorem d_M_promise_51 : decode cc_M_promise 51 = .ok (.invokevirtual 101, 3) := by decide +kernel
theorem d_M_promise_54 : decode cc_M_promise 54 = .ok (.ifCond .eq 7, 3) := by decide +kernel
theorem d_M_promise_57 : decode cc_M_promise 57 = .ok (.iconst 0, 1) := by decide +kernel
theorem d_M_promise_58 : decode cc_M_promise 58 = .ok (.goto 4, 3) := by decide +kernel
theorem d_M_promise_61 : decode cc_M_promise 61 = .ok (.iconst 1, 1) := by decide +kernel
theorem d_M_promise_62 : decode cc_M_promise 62 = .ok (.putfield 55, 3) := by decide +kernel
theorem d_M_promise_65 : decode cc_M_promise 65 = .ok (.iinc 2 1, 3) := by decide +kernel
theorem d_M_promise_68 : decode cc_M_promise 68 = .ok (.iinc 3 1, 3) := by decide +kernel
theorem d_M_promise_71 : decode cc_M_promise 71 = .ok (.goto (-47), 3) := by decide +kernel
theorem d_M_promise_74 : decode cc_M_promise 74 = .ok (.aload_n 0, 1) := by decide +kernel
theorem d_M_promise_75 : decode cc_M_promise 75 = .ok (.getfield 55, 3) := by decide +kernel
theorem d_M_promise_78 : decode cc_M_promise 78 = .ok (.ifCond .le 5, 3) := by decide +kernel
theorem d_M_promise_81 : decode cc_M_promise 81 = .ok (.iconst 0, 1) := by decide +kernel
theorem d_M_promise_82 : decode cc_M_promise 82 = .ok (.ireturn, 1) := by decide +kernel
theorem d_M_promise_83 : decode cc_M_promise 83 = .ok (.iload_n 2, 1) := by decide +kernel
theorem d_M_promise_84 : decode cc_M_promise 84 = .ok (.bipush 6, 2) := by decide +kernel
theorem d_M_promise_86 : decode cc_M_promise 86 = .ok (.if_icmp .le 5, 3) := by decide +kernel
theorem d_M_promise_89 : decode cc_M_promise 89 = .ok (.iconst (-1), 1) := by decide +kernel
theorem d_M_promise_90 : decode cc_M_promise 90 = .ok (.ireturn, 1) := by decide +kernel
theorem d_M_promise_91 : decode cc_M_promise 91 = .ok (.iconst 0, 1) := by decide +kernel
theorem d_M_promise_92 : decode cc_M_promise 92 = .ok (.istore_n 3, 1) := by decide +kernel
theorem d_M_promise_93 : decode cc_M_promise 93 = .ok (.iconst 0, 1) := by decide +kernel
theorem d_M_promise_94 : decode cc_M_promise 94 = .ok (.istore 4, 2) := by decide +kernel
theorem d_M_promise_96 : decode cc_M_promise 96 = .ok (.iload 4, 2) := by decide +kernel
theorem d_M_promise_98 : decode cc_M_promise 98 = .ok (.bipush 6, 2) := by decide +kernel
theorem d_M_promise_100 : decode cc_M_promise 100 = .ok (.if_icmp .ge 19, 3) := by decide +kernel
theorem d_M_promise_103 : decode cc_M_promise 103 = .ok (.iload_n 3, 1) := by decide +kernel
theorem d_M_promise_104 : decode cc_M_promise 104 = .ok (.aload_n 0, 1) := by decide +kernel
theorem d_M_promise_105 : decode cc_M_promise 105 = .ok (.iload_n 1, 1) := by decide +kernel
theorem d_M_promise_106 : decode cc_M_promise 106 = .ok (.iload 4, 2) := by decide +kernel
theorem d_M_promise_108 : decode cc_M_promise 108 = .ok (.invokevirtual 108, 3) := by decide +kernel
theorem d_M_promise_111 : decode cc_M_promise 111 = .ok (.iadd, 1) := by decide +kernel
theorem d_M_promise_112 : decode cc_M_promise 112 = .ok (.istore_n 3, 1) := by decide +kernel
theorem d_M_promise_113 : decode cc_M_promise 113 = .ok (.iinc 4 1, 3) := by decide +kernel
theorem d_M_promise_116 : decode cc_M_promise 116 = .ok (.goto (-20), 3) := by decide +kernel
theorem d_M_promise_119 : decode cc_M_promise 119 = .ok (.iload_n 3, 1) := by decide +kernel
theorem d_M_promise_120 : decode cc_M_promise 120 = .ok (.ireturn, 1) := by decide +kernel
theorem d_M_reach_0 : decode cc_M_reach 0 = .ok (.iconst 0, 1) := by decide +kernel
theorem d_M_reach_1 : decode cc_M_reach 1 = .ok (.istore_n 1, 1) := by decide +kernel
theorem d_M_reach_2 : decode cc_M_reach 2 = .ok (.iload_n 1, 1) := by decide +kernel
theorem d_M_reach_3 : decode cc_M_reach 3 = .ok (.bipush 100, 2) := by decide +kernel
theorem d_M_reach_5 : decode cc_M_reach 5 = .ok (.if_icmp .ge 62, 3) := by decide +kernel
theorem d_M_reach_8 : decode cc_M_reach 8 = .ok (.aload_n 0, 1) := by decide +kernel
theorem d_M_reach_9 : decode cc_M_reach 9 = .ok (.getfield 46, 3) := by decide +kernel
theorem d_M_reach_12 : decode cc_M_reach 12 = .ok (.iload_n 1, 1) := by decide +kernel
theorem d_M_reach_13 : decode cc_M_reach 13 = .ok (.iload_n 1, 1) := by decide +kernel
theorem d_M_reach_14 : decode cc_M_reach 14 = .ok (.bipush 11, 2) := by decide +kernel
theorem d_M_reach_16 : decode cc_M_reach 16 = .ok (.irem, 1) := by decide +kernel
theorem d_M_reach_17 : decode cc_M_reach 17 = .ok (.ifCond .ne 7, 3) := by decide +kernel
theorem d_M_reach_20 : decode cc_M_reach 20 = .ok (.iconst 0, 1) := by decide +kernel
theorem d_M_reach_21 : decode cc_M_reach 21 = .ok (.goto 39, 3) := by decide +kernel
theorem d_M_reach_24 : decode cc_M_reach 24 = .ok (.aload_n 0, 1) := by decide +kernel
theorem d_M_reach_25 : decode cc_M_reach 25 = .ok (.getfield 43, 3) := by decide +kernel
theorem d_M_reach_28 : decode cc_M_reach 28 = .ok (.bipush 100, 2) := by decide +kernel
theorem d_M_reach_30 : decode cc_M_reach 30 = .ok (.aload_n 0, 1) := by decide +kernel
theorem d_M_reach_31 : decode cc_M_reach 31 = .ok (.getfield 63, 3) := by decide +kernel
theorem d_M_reach_34 : decode cc_M_reach 34 = .ok (.imul, 1) := by decide +kernel
theorem d_M_reach_35 : decode cc_M_reach 35 = .ok (.iload_n 1, 1) := by decide +kernel
theorem d_M_reach_36 : decode cc_M_reach 36 = .ok (.iadd, 1) := by decide +kernel
theorem d_M_reach_37 : decode cc_M_reach 37 = .ok (.iaload, 1) := by decide +kernel
theorem d_M_reach_38 : decode cc_M_reach 38 = .ok (.ifCond .le 20, 3) := by decide +kernel
theorem d_M_reach_41 : decode cc_M_reach 41 = .ok (.aload_n 0, 1) := by decide +kernel
theorem d_M_reach_42 : decode cc_M_reach 42 = .ok (.getfield 43, 3) := by decide +kernel
theorem d_M_reach_45 : decode cc_M_reach 45 = .ok (.bipush 100, 2) := by decide +kernel
theorem d_M_reach_47 : decode cc_M_reach 47 = .ok (.aload_n 0, 1) := by decide +kernel
theorem d_M_reach_48 : decode cc_M_reach 48 = .ok (.getfield 63, 3) := by decide +kernel
theorem d_M_reach_51 : decode cc_M_reach 51 = .ok (.imul, 1) := by decide +kernel
theorem d_M_reach_52 : decode cc_M_reach 52 = .ok (.iload_n 1, 1) := by decide +kernel
theorem d_M_reach_53 : decode cc_M_reach 53 = .ok (.iadd, 1) := by decide +kernel
theorem d_M_reach_54 : decode cc_M_reach 54 = .ok (.iaload, 1) := by decide +kernel
theorem d_M_reach_55 : decode cc_M_reach 55 = .ok (.goto 5, 3) := by decide +kernel
theorem d_M_reach_58 : decode cc_M_reach 58 = .ok (.ldc 112, 2) := by decide +kernel
theorem d_M_reach_60 : decode cc_M_reach 60 = .ok (.iastore, 1) := by decide +kernel
theorem d_M_reach_61 : decode cc_M_reach 61 = .ok (.iinc 1 1, 3) := by decide +kernel
theorem d_M_reach_64 : decode cc_M_reach 64 = .ok (.goto (-62), 3) := by decide +kernel
theorem d_M_reach_67 : decode cc_M_reach 67 = .ok (.iconst 0, 1) := by decide +kernel
theorem d_M_reach_68 : decode cc_M_reach 68 = .ok (.istore_n 1, 1) := by decide +kernel
theorem d_M_reach_69 : decode cc_M_reach 69 = .ok (.iload_n 1, 1) := by decide +kernel
theorem d_M_reach_70 : decode cc_M_reach 70 = .ok (.bipush 10, 2) := by decide +kernel
theorem d_M_reach_72 : decode cc_M_reach 72 = .ok (.if_icmp .ge 91, 3) := by decide +kernel
theorem d_M_reach_75 : decode cc_M_reach 75 = .ok (.iconst 0, 1) := by decide +kernel
theorem d_M_reach_76 : decode cc_M_reach 76 = .ok (.istore_n 2, 1) := by decide +kernel
theorem d_M_reach_77 : decode cc_M_reach 77 = .ok (.iload_n 2, 1) := by decide +kernel
theorem d_M_reach_78 : decode cc_M_reach 78 = .ok (.bipush 10, 2) := by decide +kernel
theorem d_M_reach_80 : decode cc_M_reach 80 = .ok (.if_icmp .ge 77, 3) := by decide +kernel
theorem d_M_reach_83 : decode cc_M_reach 83 = .ok (.iconst 0, 1) := by decide +kernel
theorem d_M_reach_84 : decode cc_M_reach 84 = .ok (.istore_n 3, 1) := by decide +kernel
theorem d_M_reach_85 : decode cc_M_reach 85 = .ok (.iload_n 3, 1) := by decide +kernel
theorem d_M_reach_86 : decode cc_M_reach 86 = .ok (.bipush 10, 2) := by decide +kernel
theorem d_M_reach_88 : decode cc_M_reach 88 = .ok (.if_icmp .ge 63, 3) := by decide +kernel
theorem d_M_reach_91 : decode cc_M_reach 91 = .ok (.aload_n 0, 1) := by decide +kernel
theorem d_M_reach_92 : decode cc_M_reach 92 = .ok (.getfield 46, 3) := by decide +kernel
theorem d_M_reach_95 : decode cc_M_reach 95 = .ok (.bipush 10, 2) := by decide +kernel
theorem d_M_reach_97 : decode cc_M_reach 97 = .ok (.iload_n 2, 1) := by decide +kernel
theorem d_M_reach_98 : decode cc_M_reach 98 = .ok (.imul, 1) := by decide +kernel
theorem d_M_reach_99 : decode cc_M_reach 99 = .ok (.iload_n 1, 1) := by decide +kernel
theorem d_M_reach_100 : decode cc_M_reach 100 = .ok (.iadd, 1) := by decide +kernel
theorem d_M_reach_101 : decode cc_M_reach 101 = .ok (.iaload, 1) := by decide +kernel
theorem d_M_reach_102 : decode cc_M_reach 102 = .ok (.aload_n 0, 1) := by decide +kernel
theorem d_M_reach_103 : decode cc_M_reach 103 = .ok (.getfield 46, 3) := by decide +kernel
theorem d_M_reach_106 : decode cc_M_reach 106 = .ok (.bipush 10, 2) := by decide +kernel
theorem d_M_reach_108 : decode cc_M_reach 108 = .ok (.iload_n 1, 1) := by decide +kernel
theorem d_M_reach_109 : decode cc_M_reach 109 = .ok (.imul, 1) := by decide +kernel
theorem d_M_reach_110 : decode cc_M_reach 110 = .ok (.iload_n 3, 1) := by decide +kernel
theorem d_M_reach_111 : decode cc_M_reach 111 = .ok (.iadd, 1) := by decide +kernel
theorem d_M_reach_112 : decode cc_M_reach 112 = .ok (.iaload, 1) := by decide +kernel
theorem d_M_reach_113 : decode cc_M_reach 113 = .ok (.iadd, 1) := by decide +kernel
theorem d_M_reach_114 : decode cc_M_reach 114 = .ok (.istore 4, 2) := by decide +kernel
theorem d_M_reach_116 : decode cc_M_reach 116 = .ok (.iload 4, 2) := by decide +kernel
theorem d_M_reach_118 : decode cc_M_reach 118 = .ok (.aload_n 0, 1) := by decide +kernel
theorem d_M_reach_119 : decode cc_M_reach 119 = .ok (.getfield 46, 3) := by decide +kernel
theorem d_M_reach_122 : decode cc_M_reach 122 = .ok (.bipush 10, 2) := by decide +kernel
theorem d_M_reach_124 : decode cc_M_reach 124 = .ok (.iload_n 2, 1) := by decide +kernel
theorem d_M_reach_125 : decode cc_M_reach 125 = .ok (.imul, 1) := by decide +kernel
theorem d_M_reach_126 : decode cc_M_reach 126 = .ok (.iload_n 3, 1) := by decide +kernel
theorem d_M_reach_127 : decode cc_M_reach 127 = .ok (.iadd, 1) := by decide +kernel
theorem d_M_reach_128 : decode cc_M_reach 128 = .ok (.iaload, 1) := by decide +kernel
theorem d_M_reach_129 : decode cc_M_reach 129 = .ok (.if_icmp .ge 16, 3) := by decide +kernel
theorem d_M_reach_132 : decode cc_M_reach 132 = .ok (.aload_n 0, 1) := by decide +kernel
theorem d_M_reach_133 : decode cc_M_reach 133 = .ok (.getfield 46, 3) := by decide +kernel
theorem d_M_reach_136 : decode cc_M_reach 136 = .ok (.bipush 10, 2) := by decide +kernel
theorem d_M_reach_138 : decode cc_M_reach 138 = .ok (.iload_n 2, 1) := by decide +kernel
theorem d_M_reach_139 : decode cc_M_reach 139 = .ok (.imul, 1) := by decide +kernel
theorem d_M_reach_140 : decode cc_M_reach 140 = .ok (.iload_n 3, 1) := by decide +kernel
theorem d_M_reach_141 : decode cc_M_reach 141 = .ok (.iadd, 1) := by decide +kernel
theorem d_M_reach_142 : decode cc_M_reach 142 = .ok (.iload 4, 2) := by decide +kernel
theorem d_M_reach_144 : decode cc_M_reach 144 = .ok (.iastore, 1) := by decide +kernel
theorem d_M_reach_145 : decode cc_M_reach 145 = .ok (.iinc 3 1, 3) := by decide +kernel
theorem d_M_reach_148 : decode cc_M_reach 148 = .ok (.goto (-63), 3) := by decide +kernel
theorem d_M_reach_151 : decode cc_M_reach 151 = .ok (.iinc 2 1, 3) := by decide +kernel
theorem d_M_reach_154 : decode cc_M_reach 154 = .ok (.goto (-77), 3) := by decide +kernel
theorem d_M_reach_157 : decode cc_M_reach 157 = .ok (.iinc 1 1, 3) := by decide +kernel
theorem d_M_reach_160 : decode cc_M_reach 160 = .ok (.goto (-91), 3) := by decide +kernel
theorem d_M_reach_163 : decode cc_M_reach 163 = .ok (.return_, 1) := by decide +kernel
theorem d_M_way_0 : decode cc_M_way 0 = .ok (.aload_n 0, 1) := by decide +kernel
theorem d_M_way_1 : decode cc_M_way 1 = .ok (.iload_n 1, 1) := by decide +kernel
theorem d_M_way_2 : decode cc_M_way 2 = .ok (.invokestatic 70, 3) := by decide +kernel
theorem d_M_way_5 : decode cc_M_way 5 = .ok (.ifCond .eq 14, 3) := by decide +kernel
theorem d_M_way_8 : decode cc_M_way 8 = .ok (.iload_n 2, 1) := by decide +kernel
theorem d_M_way_9 : decode cc_M_way 9 = .ok (.invokestatic 70, 3) := by decide +kernel
theorem d_M_way_12 : decode cc_M_way 12 = .ok (.ifCond .eq 7, 3) := by decide +kernel
theorem d_M_way_15 : decode cc_M_way 15 = .ok (.iconst 0, 1) := by decide +kernel
theorem d_M_way_16 : decode cc_M_way 16 = .ok (.goto 4, 3) := by decide +kernel
theorem d_M_way_19 : decode cc_M_way 19 = .ok (.iconst 1, 1) := by decide +kernel
theorem d_M_way_20 : decode cc_M_way 20 = .ok (.putfield 55, 3) := by decide +kernel
theorem d_M_way_23 : decode cc_M_way 23 = .ok (.aload_n 0, 1) := by decide +kernel
theorem d_M_way_24 : decode cc_M_way 24 = .ok (.getfield 55, 3) := by decide +kernel
theorem d_M_way_27 : decode cc_M_way 27 = .ok (.ifCond .le 5, 3) := by decide +kernel
theorem d_M_way_30 : decode cc_M_way 30 = .ok (.iconst 0, 1) := by decide +kernel
theorem d_M_way_31 : decode cc_M_way 31 = .ok (.ireturn, 1) := by decide +kernel
theorem d_M_way_32 : decode cc_M_way 32 = .ok (.aload_n 0, 1) := by decide +kernel
theorem d_M_way_33 : decode cc_M_way 33 = .ok (.invokevirtual 113, 3) := by decide +kernel
theorem d_M_way_36 : decode cc_M_way 36 = .ok (.aload_n 0, 1) := by decide +kernel
theorem d_M_way_37 : decode cc_M_way 37 = .ok (.getfield 46, 3) := by decide +kernel
theorem d_M_way_40 : decode cc_M_way 40 = .ok (.bipush 10, 2) := by decide +kernel
theorem d_M_way_42 : decode cc_M_way 42 = .ok (.iload_n 1, 1) := by decide +kernel
theorem d_M_way_43 : decode cc_M_way 43 = .ok (.imul, 1) := by decide +kernel
theorem d_M_way_44 : decode cc_M_way 44 = .ok (.iload_n 2, 1) := by decide +kernel
theorem d_M_way_45 : decode cc_M_way 45 = .ok (.iadd, 1) := by decide +kernel
theorem d_M_way_46 : decode cc_M_way 46 = .ok (.iaload, 1) := by decide +kernel
theorem d_M_way_47 : decode cc_M_way 47 = .ok (.ldc 112, 2) := by decide +kernel
theorem d_M_way_49 : decode cc_M_way 49 = .ok (.if_icmp .ge 17, 3) := by decide +kernel
theorem d_M_way_52 : decode cc_M_way 52 = .ok (.aload_n 0, 1) := by decide +kernel
theorem d_M_way_53 : decode cc_M_way 53 = .ok (.getfield 46, 3) := by decide +kernel
theorem d_M_way_56 : decode cc_M_way 56 = .ok (.bipush 10, 2) := by decide +kernel
theorem d_M_way_58 : decode cc_M_way 58 = .ok (.iload_n 1, 1) := by decide +kernel
theorem d_M_way_59 : decode cc_M_way 59 = .ok (.imul, 1) := by decide +kernel
theorem d_M_way_60 : decode cc_M_way 60 = .ok (.iload_n 2, 1) := by decide +kernel
theorem d_M_way_61 : decode cc_M_way 61 = .ok (.iadd, 1) := by decide +kernel
theorem d_M_way_62 : decode cc_M_way 62 = .ok (.iaload, 1) := by decide +kernel
theorem d_M_way_63 : decode cc_M_way 63 = .ok (.goto 4, 3) := by decide +kernel
theorem d_M_way_66 : decode cc_M_way 66 = .ok (.iconst (-1), 1) := by decide +kernel
theorem d_M_way_67 : decode cc_M_way 67 = .ok (.ireturn, 1) := by decide +kernel
theorem d_M_places_0 : decode cc_M_places 0 = .ok (.iconst 0, 1) := by decide +kernel
theorem d_M_places_1 : decode cc_M_places 1 = .ok (.istore_n 2, 1) := by decide +kernel
theorem d_M_places_2 : decode cc_M_places 2 = .ok (.iconst 0, 1) := by decide +kernel
theorem d_M_places_3 : decode cc_M_places 3 = .ok (.istore_n 3, 1) := by decide +kernel
theorem d_M_places_4 : decode cc_M_places 4 = .ok (.iload_n 3, 1) := by decide +kernel
theorem d_M_places_5 : decode cc_M_places 5 = .ok (.bipush 10, 2) := by decide +kernel
theorem d_M_places_7 : decode cc_M_places 7 = .ok (.if_icmp .ge 103, 3) := by decide +kernel
theorem d_M_places_10 : decode cc_M_places 10 = .ok (.iconst 0, 1) := by decide +kernel
theorem d_M_places_11 : decode cc_M_places 11 = .ok (.istore 4, 2) := by decide +kernel
theorem d_M_places_13 : decode cc_M_places 13 = .ok (.iconst 0, 1) := by decide +kernel
theorem d_M_places_14 : decode cc_M_places 14 = .ok (.istore 5, 2) := by decide +kernel
theorem d_M_places_16 : decode cc_M_places 16 = .ok (.iload 5, 2) := by decide +kernel
theorem d_M_places_18 : decode cc_M_places 18 = .ok (.bipush 20, 2) := by decide +kernel
theorem d_M_places_20 : decode cc_M_places 20 = .ok (.if_icmp .ge 59, 3) := by decide +kernel
theorem d_M_places_23 : decode cc_M_places 23 = .ok (.iload 4, 2) := by decide +kernel
theorem d_M_places_25 : decode cc_M_places 25 = .ok (.ifCond .ne 41, 3) := by decide +kernel
theorem d_M_places_28 : decode cc_M_places 28 = .ok (.aload_n 0, 1) := by decide +kernel
theorem d_M_places_29 : decode cc_M_places 29 = .ok (.getfield 28, 3) := by decide +kernel
theorem d_M_places_32 : decode cc_M_places 32 = .ok (.bipush 20, 2) := by decide +kernel
theorem d_M_places_34 : decode cc_M_places 34 = .ok (.aload_n 0, 1) := by decide +kernel
theorem d_M_places_35 : decode cc_M_places 35 = .ok (.getfield 63, 3) := by decide +kernel
theorem d_M_places_38 : decode cc_M_places 38 = .ok (.imul, 1) := by decide +kernel
theorem d_M_places_39 : decode cc_M_places 39 = .ok (.iload 5, 2) := by decide +kernel
theorem d_M_places_41 : decode cc_M_places 41 = .ok (.iadd, 1) := by decide +kernel
theorem d_M_places_42 : decode cc_M_places 42 = .ok (.iaload, 1) := by decide +kernel
theorem d_M_places_43 : decode cc_M_places 43 = .ok (.iload_n 1, 1) := by decide +kernel
theorem d_M_places_44 : decode cc_M_places 44 = .ok (.if_icmp .ne 26, 3) := by decide +kernel
theorem d_M_places_47 : decode cc_M_places 47 = .ok (.aload_n 0, 1) := by decide +kernel
theorem d_M_places_48 : decode cc_M_places 48 = .ok (.getfield 22, 3) := by decide +kernel
theorem d_M_places_51 : decode cc_M_places 51 = .ok (.bipush 20, 2) := by decide +kernel
theorem d_M_places_53 : decode cc_M_places 53 = .ok (.aload_n 0, 1) := by decide +kernel
theorem d_M_places_54 : decode cc_M_places 54 = .ok (.getfield 63, 3) := by decide +kernel
theorem d_M_places_57 : decode cc_M_places 57 = .ok (.imul, 1) := by decide +kernel
theorem d_M_places_58 : decode cc_M_places 58 = .ok (.iload 5, 2) := by decide +kernel
theorem d_M_places_60 : decode cc_M_places 60 = .ok (.iadd, 1) := by decide +kernel
theorem d_M_places_61 : decode cc_M_places 61 = .ok (.iaload, 1) := by decide +kernel
theorem d_M_places_62 : decode cc_M_places 62 = .ok (.iload_n 3, 1) := by decide +kernel
theorem d_M_places_63 : decode cc_M_places 63 = .ok (.if_icmp .ne 7, 3) := by decide +kernel
theorem d_M_places_66 : decode cc_M_places 66 = .ok (.iconst 1, 1) := by decide +kernel
theorem d_M_places_67 : decode cc_M_places 67 = .ok (.goto 4, 3) := by decide +kernel
theorem d_M_places_70 : decode cc_M_places 70 = .ok (.iconst 0, 1) := by decide +kernel
theorem d_M_places_71 : decode cc_M_places 71 = .ok (.istore 4, 2) := by decide +kernel
theorem d_M_places_73 : decode cc_M_places 73 = .ok (.iinc 5 1, 3) := by decide +kernel
theorem d_M_places_76 : decode cc_M_places 76 = .ok (.goto (-60), 3) := by decide +kernel
theorem d_M_places_79 : decode cc_M_places 79 = .ok (.iload 4, 2) := by decide +kernel
theorem d_M_places_81 : decode cc_M_places 81 = .ok (.ifCond .ne 6, 3) := by decide +kernel
theorem d_M_places_84 : decode cc_M_places 84 = .ok (.goto 20, 3) := by decide +kernel
theorem d_M_places_87 : decode cc_M_places 87 = .ok (.iload_n 2, 1) := by decide +kernel
theorem d_M_places_88 : decode cc_M_places 88 = .ok (.iconst 4, 1) := by decide +kernel
theorem d_M_places_89 : decode cc_M_places 89 = .ok (.if_icmp .ne 5, 3) := by decide +kernel
theorem d_M_places_92 : decode cc_M_places 92 = .ok (.iconst 5, 1) := by decide +kernel
theorem d_M_places_93 : decode cc_M_places 93 = .ok (.ireturn, 1) := by decide +kernel
theorem d_M_places_94 : decode cc_M_places 94 = .ok (.aload_n 0, 1) := by decide +kernel
theorem d_M_places_95 : decode cc_M_places 95 = .ok (.getfield 49, 3) := by decide +kernel
theorem d_M_places_98 : decode cc_M_places 98 = .ok (.iload_n 2, 1) := by decide +kernel
theorem d_M_places_99 : decode cc_M_places 99 = .ok (.iload_n 3, 1) := by decide +kernel
theorem d_M_places_100 : decode cc_M_places 100 = .ok (.iastore, 1) := by decide +kernel
theorem d_M_places_101 : decode cc_M_places 101 = .ok (.iinc 2 1, 3) := by decide +kernel
theorem d_M_places_104 : decode cc_M_places 104 = .ok (.iinc 3 1, 3) := by decide +kernel
theorem d_M_places_107 : decode cc_M_places 107 = .ok (.goto (-103), 3) := by decide +kernel
theorem d_M_places_110 : decode cc_M_places 110 = .ok (.iload_n 2, 1) := by decide +kernel
theorem d_M_places_111 : decode cc_M_places 111 = .ok (.ireturn, 1) := by decide +kernel
theorem d_M_walk_0 : decode cc_M_walk 0 = .ok (.aload_n 0, 1) := by decide +kernel
theorem d_M_walk_1 : decode cc_M_walk 1 = .ok (.aload_n 0, 1) := by decide +kernel
theorem d_M_walk_2 : decode cc_M_walk 2 = .ok (.iload_n 1, 1) := by decide +kernel
theorem d_M_walk_3 : decode cc_M_walk 3 = .ok (.invokevirtual 101, 3) := by decide +kernel
theorem d_M_walk_6 : decode cc_M_walk 6 = .ok (.ifCond .ne 7, 3) := by decide +kernel
theorem d_M_walk_9 : decode cc_M_walk 9 = .ok (.iconst 1, 1) := by decide +kernel
theorem d_M_walk_10 : decode cc_M_walk 10 = .ok (.goto 15, 3) := by decide +kernel
theorem d_M_walk_13 : decode cc_M_walk 13 = .ok (.iload_n 2, 1) := by decide +kernel
theorem d_M_walk_14 : decode cc_M_walk 14 = .ok (.invokestatic 70, 3) := by decide +kernel
theorem d_M_walk_17 : decode cc_M_walk 17 = .ok (.ifCond .ne 7, 3) := by decide +kernel
theorem d_M_walk_20 : decode cc_M_walk 20 = .ok (.iconst 2, 1) := by decide +kernel
theorem d_M_walk_21 : decode cc_M_walk 21 = .ok (.goto 4, 3) := by decide +kernel
theorem d_M_walk_24 : decode cc_M_walk 24 = .ok (.iconst 0, 1) := by decide +kernel
theorem d_M_walk_25 : decode cc_M_walk 25 = .ok (.putfield 55, 3) := by decide +kernel
theorem d_M_walk_28 : decode cc_M_walk 28 = .ok (.aload_n 0, 1) := by decide +kernel
theorem d_M_walk_29 : decode cc_M_walk 29 = .ok (.getfield 55, 3) := by decide +kernel
theorem d_M_walk_32 : decode cc_M_walk 32 = .ok (.ifCond .le 5, 3) := by decide +kernel
theorem d_M_walk_35 : decode cc_M_walk 35 = .ok (.iconst 0, 1) := by decide +kernel
theorem d_M_walk_36 : decode cc_M_walk 36 = .ok (.ireturn, 1) := by decide +kernel
theorem d_M_walk_37 : decode cc_M_walk 37 = .ok (.aload_n 0, 1) := by decide +kernel
theorem d_M_walk_38 : decode cc_M_walk 38 = .ok (.iload_n 1, 1) := by decide +kernel
theorem d_M_walk_39 : decode cc_M_walk 39 = .ok (.invokevirtual 116, 3) := by decide +kernel
theorem d_M_walk_42 : decode cc_M_walk 42 = .ok (.istore_n 3, 1) := by decide +kernel
theorem d_M_walk_43 : decode cc_M_walk 43 = .ok (.iload_n 3, 1) := by decide +kernel
theorem d_M_walk_44 : decode cc_M_walk 44 = .ok (.ifCond .ne 5, 3) := by decide +kernel
theorem d_M_walk_47 : decode cc_M_walk 47 = .ok (.iconst 0, 1) := by decide +kernel
theorem d_M_walk_48 : decode cc_M_walk 48 = .ok (.ireturn, 1) := by decide +kernel
theorem d_M_walk_49 : decode cc_M_walk 49 = .ok (.iload_n 3, 1) := by decide +kernel
theorem d_M_walk_50 : decode cc_M_walk 50 = .ok (.iconst 4, 1) := by decide +kernel
theorem d_M_walk_51 : decode cc_M_walk 51 = .ok (.if_icmp .le 6, 3) := by decide +kernel
theorem d_M_walk_54 : decode cc_M_walk 54 = .ok (.bipush (-2), 2) := by decide +kernel
theorem d_M_walk_56 : decode cc_M_walk 56 = .ok (.ireturn, 1) := by decide +kernel
theorem d_M_walk_57 : decode cc_M_walk 57 = .ok (.aload_n 0, 1) := by decide +kernel
theorem d_M_walk_58 : decode cc_M_walk 58 = .ok (.invokevirtual 113, 3) := by decide +kernel
theorem d_M_walk_61 : decode cc_M_walk 61 = .ok (.ldc 112, 2) := by decide +kernel
theorem d_M_walk_63 : decode cc_M_walk 63 = .ok (.istore 4, 2) := by decide +kernel
theorem d_M_walk_65 : decode cc_M_walk 65 = .ok (.iconst 1, 1) := by decide +kernel
theorem d_M_walk_66 : decode cc_M_walk 66 = .ok (.istore 5, 2) := by decide +kernel
theorem d_M_walk_68 : decode cc_M_walk 68 = .ok (.iload 5, 2) := by decide +kernel
theorem d_M_walk_70 : decode cc_M_walk 70 = .ok (.iconst 1, 1) := by decide +kernel
theorem d_M_walk_71 : decode cc_M_walk 71 = .ok (.iload_n 3, 1) := by decide +kernel
theorem d_M_walk_72 : decode cc_M_walk 72 = .ok (.ishl, 1) := by decide +kernel
theorem d_M_walk_73 : decode cc_M_walk 73 = .ok (.if_icmp .ge 199, 3) := by decide +kernel
theorem d_M_walk_76 : decode cc_M_walk 76 = .ok (.iconst 0, 1) := by decide +kernel
theorem d_M_walk_77 : decode cc_M_walk 77 = .ok (.istore 6, 2) := by decide +kernel
theorem d_M_walk_79 : decode cc_M_walk 79 = .ok (.iload 6, 2) := by decide +kernel
theorem d_M_walk_81 : decode cc_M_walk 81 = .ok (.iload_n 3, 1) := by decide +kernel
theorem d_M_walk_82 : decode cc_M_walk 82 = .ok (.if_icmp .ge 184, 3) := by decide +kernel
theorem d_M_walk_85 : decode cc_M_walk 85 = .ok (.iload 5, 2) := by decide +kernel
theorem d_M_walk_87 : decode cc_M_walk 87 = .ok (.iconst 1, 1) := by decide +kernel
theorem d_M_walk_88 : decode cc_M_walk 88 = .ok (.iload 6, 2) := by decide +kernel
theorem d_M_walk_90 : decode cc_M_walk 90 = .ok (.ishl, 1) := by decide +kernel
theorem d_M_walk_91 : decode cc_M_walk 91 = .ok (.if_icmp .ne 23, 3) := by decide +kernel
theorem d_M_walk_94 : decode cc_M_walk 94 = .ok (.aload_n 0, 1) := by decide +kernel
theorem d_M_walk_95 : decode cc_M_walk 95 = .ok (.getfield 46, 3) := by decide +kernel
theorem d_M_walk_98 : decode cc_M_walk 98 = .ok (.bipush 10, 2) := by decide +kernel
theorem d_M_walk_100 : decode cc_M_walk 100 = .ok (.iload_n 2, 1) := by decide +kernel
theorem d_M_walk_101 : decode cc_M_walk 101 = .ok (.imul, 1) := by decide +kernel
theorem d_M_walk_102 : decode cc_M_walk 102 = .ok (.aload_n 0, 1) := by decide +kernel
theorem d_M_walk_103 : decode cc_M_walk 103 = .ok (.getfield 49, 3) := by decide +kernel
theorem d_M_walk_106 : decode cc_M_walk 106 = .ok (.iload 6, 2) := by decide +kernel
theorem d_M_walk_108 : decode cc_M_walk 108 = .ok (.iaload, 1) := by decide +kernel
theorem d_M_walk_109 : decode cc_M_walk 109 = .ok (.iadd, 1) := by decide +kernel
theorem d_M_walk_110 : decode cc_M_walk 110 = .ok (.iaload, 1) := by decide +kernel
theorem d_M_walk_111 : decode cc_M_walk 111 = .ok (.goto 5, 3) := by decide +kernel
theorem d_M_walk_114 : decode cc_M_walk 114 = .ok (.ldc 112, 2) := by decide +kernel
theorem d_M_walk_116 : decode cc_M_walk 116 = .ok (.istore 7, 2) := by decide +kernel
theorem d_M_walk_118 : decode cc_M_walk 118 = .ok (.iconst 0, 1) := by decide +kernel
theorem d_M_walk_119 : decode cc_M_walk 119 = .ok (.istore 8, 2) := by decide +kernel
theorem d_M_walk_121 : decode cc_M_walk 121 = .ok (.iload 8, 2) := by decide +kernel
theorem d_M_walk_123 : decode cc_M_walk 123 = .ok (.iload_n 3, 1) := by decide +kernel
theorem d_M_walk_124 : decode cc_M_walk 124 = .ok (.if_icmp .ge 101, 3) := by decide +kernel
theorem d_M_walk_127 : decode cc_M_walk 127 = .ok (.iload 5, 2) := by decide +kernel
theorem d_M_walk_129 : decode cc_M_walk 129 = .ok (.iload 6, 2) := by decide +kernel
theorem d_M_walk_131 : decode cc_M_walk 131 = .ok (.ishr, 1) := by decide +kernel
theorem d_M_walk_132 : decode cc_M_walk 132 = .ok (.iconst 1, 1) := by decide +kernel
theorem d_M_walk_133 : decode cc_M_walk 133 = .ok (.iand, 1) := by decide +kernel
theorem d_M_walk_134 : decode cc_M_walk 134 = .ok (.iconst 1, 1) := by decide +kernel
theorem d_M_walk_135 : decode cc_M_walk 135 = .ok (.if_icmp .ne 90, 3) := by decide +kernel
theorem d_M_walk_138 : decode cc_M_walk 138 = .ok (.iload 8, 2) := by decide +kernel
theorem d_M_walk_140 : decode cc_M_walk 140 = .ok (.iload 6, 2) := by decide +kernel
theorem d_M_walk_142 : decode cc_M_walk 142 = .ok (.if_icmp .eq 77, 3) := by decide +kernel
theorem d_M_walk_145 : decode cc_M_walk 145 = .ok (.iload 5, 2) := by decide +kernel
theorem d_M_walk_147 : decode cc_M_walk 147 = .ok (.iload 8, 2) := by decide +kernel
theorem d_M_walk_149 : decode cc_M_walk 149 = .ok (.ishr, 1) := by decide +kernel
theorem d_M_walk_150 : decode cc_M_walk 150 = .ok (.iconst 1, 1) := by decide +kernel
theorem d_M_walk_151 : decode cc_M_walk 151 = .ok (.iand, 1) := by decide +kernel
theorem d_M_walk_152 : decode cc_M_walk 152 = .ok (.ifCond .ne 6, 3) := by decide +kernel
theorem d_M_walk_155 : decode cc_M_walk 155 = .ok (.goto 64, 3) := by decide +kernel
theorem d_M_walk_158 : decode cc_M_walk 158 = .ok (.aload_n 0, 1) := by decide +kernel
theorem d_M_walk_159 : decode cc_M_walk 159 = .ok (.getfield 52, 3) := by decide +kernel
theorem d_M_walk_162 : decode cc_M_walk 162 = .ok (.iconst 4, 1) := by decide +kernel
theorem d_M_walk_163 : decode cc_M_walk 163 = .ok (.iload 5, 2) := by decide +kernel
theorem d_M_walk_165 : decode cc_M_walk 165 = .ok (.iconst 1, 1) := by decide +kernel
theorem d_M_walk_166 : decode cc_M_walk 166 = .ok (.iload 6, 2) := by decide +kernel
theorem d_M_walk_168 : decode cc_M_walk 168 = .ok (.ishl, 1) := by decide +kernel
theorem d_M_walk_169 : decode cc_M_walk 169 = .ok (.iconst (-1), 1) := by decide +kernel
theorem d_M_walk_170 : decode cc_M_walk 170 = .ok (.ixor, 1) := by decide +kernel
theorem d_M_walk_171 : decode cc_M_walk 171 = .ok (.iand, 1) := by decide +kernel
theorem d_M_walk_172 : decode cc_M_walk 172 = .ok (.imul, 1) := by decide +kernel
theorem d_M_walk_173 : decode cc_M_walk 173 = .ok (.iload 8, 2) := by decide +kernel
theorem d_M_walk_175 : decode cc_M_walk 175 = .ok (.iadd, 1) := by decide +kernel
theorem d_M_walk_176 : decode cc_M_walk 176 = .ok (.iaload, 1) := by decide +kernel
theorem d_M_walk_177 : decode cc_M_walk 177 = .ok (.aload_n 0, 1) := by decide +kernel
theorem d_M_walk_178 : decode cc_M_walk 178 = .ok (.getfield 46, 3) := by decide +kernel
theorem d_M_walk_181 : decode cc_M_walk 181 = .ok (.bipush 10, 2) := by decide +kernel
theorem d_M_walk_183 : decode cc_M_walk 183 = .ok (.aload_n 0, 1) := by decide +kernel
theorem d_M_walk_184 : decode cc_M_walk 184 = .ok (.getfield 49, 3) := by decide +kernel
theorem d_M_walk_187 : decode cc_M_walk 187 = .ok (.iload 8, 2) := by decide +kernel
theorem d_M_walk_189 : decode cc_M_walk 189 = .ok (.iaload, 1) := by decide +kernel
theorem d_M_walk_190 : decode cc_M_walk 190 = .ok (.imul, 1) := by decide +kernel
theorem d_M_walk_191 : decode cc_M_walk 191 = .ok (.aload_n 0, 1) := by decide +kernel
theorem d_M_walk_192 : decode cc_M_walk 192 = .ok (.getfield 49, 3) := by decide +kernel
theorem d_M_walk_195 : decode cc_M_walk 195 = .ok (.iload 6, 2) := by decide +kernel
theorem d_M_walk_197 : decode cc_M_walk 197 = .ok (.iaload, 1) := by decide +kernel
theorem d_M_walk_198 : decode cc_M_walk 198 = .ok (.iadd, 1) := by decide +kernel
theorem d_M_walk_199 : decode cc_M_walk 199 = .ok (.iaload, 1) := by decide +kernel
theorem d_M_walk_200 : decode cc_M_walk 200 = .ok (.iadd, 1) := by decide +kernel
theorem d_M_walk_201 : decode cc_M_walk 201 = .ok (.istore 9, 2) := by decide +kernel
theorem d_M_walk_203 : decode cc_M_walk 203 = .ok (.iload 9, 2) := by decide +kernel
theorem d_M_walk_205 : decode cc_M_walk 205 = .ok (.iload 7, 2) := by decide +kernel
theorem d_M_walk_207 : decode cc_M_walk 207 = .ok (.if_icmp .ge 8, 3) := by decide +kernel
theorem d_M_walk_210 : decode cc_M_walk 210 = .ok (.iload 9, 2) := by decide +kernel
theorem d_M_walk_212 : decode cc_M_walk 212 = .ok (.goto 5, 3) := by decide +kernel
theorem d_M_walk_215 : decode cc_M_walk 215 = .ok (.iload 7, 2) := by decide +kernel
theorem d_M_walk_217 : decode cc_M_walk 217 = .ok (.istore 7, 2) := by decide +kernel
theorem d_M_walk_219 : decode cc_M_walk 219 = .ok (.iinc 8 1, 3) := by decide +kernel
theorem d_M_walk_222 : decode cc_M_walk 222 = .ok (.goto (-101), 3) := by decide +kernel
theorem d_M_walk_225 : decode cc_M_walk 225 = .ok (.aload_n 0, 1) := by decide +kernel
theorem d_M_walk_226 : decode cc_M_walk 226 = .ok (.getfield 52, 3) := by decide +kernel
theorem d_M_walk_229 : decode cc_M_walk 229 = .ok (.iconst 4, 1) := by decide +kernel
theorem d_M_walk_230 : decode cc_M_walk 230 = .ok (.iload 5, 2) := by decide +kernel
theorem d_M_walk_232 : decode cc_M_walk 232 = .ok (.imul, 1) := by decide +kernel
theorem d_M_walk_233 : decode cc_M_walk 233 = .ok (.iload 6, 2) := by decide +kernel
theorem d_M_walk_235 : decode cc_M_walk 235 = .ok (.iadd, 1) := by decide +kernel
theorem d_M_walk_236 : decode cc_M_walk 236 = .ok (.iload 7, 2) := by decide +kernel
theorem d_M_walk_238 : decode cc_M_walk 238 = .ok (.iastore, 1) := by decide +kernel
theorem d_M_walk_239 : decode cc_M_walk 239 = .ok (.iload 5, 2) := by decide +kernel
theorem d_M_walk_241 : decode cc_M_walk 241 = .ok (.iconst 1, 1) := by decide +kernel
theorem d_M_walk_242 : decode cc_M_walk 242 = .ok (.iload_n 3, 1) := by decide +kernel
theorem d_M_walk_243 : decode cc_M_walk 243 = .ok (.ishl, 1) := by decide +kernel
theorem d_M_walk_244 : decode cc_M_walk 244 = .ok (.iconst 1, 1) := by decide +kernel
theorem d_M_walk_245 : decode cc_M_walk 245 = .ok (.isub, 1) := by decide +kernel
theorem d_M_walk_246 : decode cc_M_walk 246 = .ok (.if_icmp .ne 14, 3) := by decide +kernel
theorem d_M_walk_249 : decode cc_M_walk 249 = .ok (.iload 7, 2) := by decide +kernel
theorem d_M_walk_251 : decode cc_M_walk 251 = .ok (.iload 4, 2) := by decide +kernel
theorem d_M_walk_253 : decode cc_M_walk 253 = .ok (.if_icmp .ge 7, 3) := by decide +kernel
theorem d_M_walk_256 : decode cc_M_walk 256 = .ok (.iload 7, 2) := by decide +kernel
theorem d_M_walk_258 : decode cc_M_walk 258 = .ok (.istore 4, 2) := by decide +kernel
theorem d_M_walk_260 : decode cc_M_walk 260 = .ok (.iinc 6 1, 3) := by decide +kernel
theorem d_M_walk_263 : decode cc_M_walk 263 = .ok (.goto (-184), 3) := by decide +kernel
theorem d_M_walk_266 : decode cc_M_walk 266 = .ok (.iinc 5 1, 3) := by decide +kernel
theorem d_M_walk_269 : decode cc_M_walk 269 = .ok (.goto (-201), 3) := by decide +kernel
theorem d_M_walk_272 : decode cc_M_walk 272 = .ok (.iload 4, 2) := by decide +kernel
theorem d_M_walk_274 : decode cc_M_walk 274 = .ok (.ldc 112, 2) := by decide +kernel
theorem d_M_walk_276 : decode cc_M_walk 276 = .ok (.if_icmp .ge 8, 3) := by decide +kernel
theorem d_M_walk_279 : decode cc_M_walk 279 = .ok (.iload 4, 2) := by decide +kernel
theorem d_M_walk_281 : decode cc_M_walk 281 = .ok (.goto 4, 3) := by decide +kernel
theorem d_M_walk_284 : decode cc_M_walk 284 = .ok (.iconst (-1), 1) := by decide +kernel
theorem d_M_walk_285 : decode cc_M_walk 285 = .ok (.ireturn, 1) := by decide +kernel
theorem d_M_without_0 : decode cc_M_without 0 = .ok (.aload_n 0, 1) := by decide +kernel
theorem d_M_without_1 : decode cc_M_without 1 = .ok (.iload_n 1, 1) := by decide +kernel
theorem d_M_without_2 : decode cc_M_without 2 = .ok (.bipush 61, 2) := by decide +kernel
theorem d_M_without_4 : decode cc_M_without 4 = .ok (.invokevirtual 93, 3) := by decide +kernel
theorem d_M_without_7 : decode cc_M_without 7 = .ok (.iconst 0, 1) := by decide +kernel
theorem d_M_without_8 : decode cc_M_without 8 = .ok (.istore_n 3, 1) := by decide +kernel
theorem d_M_without_9 : decode cc_M_without 9 = .ok (.iload_n 1, 1) := by decide +kernel
theorem d_M_without_10 : decode cc_M_without 10 = .ok (.iconst 1, 1) := by decide +kernel
theorem d_M_without_11 : decode cc_M_without 11 = .ok (.iadd, 1) := by decide +kernel
theorem d_M_without_12 : decode cc_M_without 12 = .ok (.istore 4, 2) := by decide +kernel
theorem d_M_without_14 : decode cc_M_without 14 = .ok (.iload 4, 2) := by decide +kernel
theorem d_M_without_16 : decode cc_M_without 16 = .ok (.aload_n 0, 1) := by decide +kernel
theorem d_M_without_17 : decode cc_M_without 17 = .ok (.getfield 63, 3) := by decide +kernel
theorem d_M_without_20 : decode cc_M_without 20 = .ok (.if_icmp .ge 86, 3) := by decide +kernel
theorem d_M_without_23 : decode cc_M_without 23 = .ok (.aload_n 0, 1) := by decide +kernel
theorem d_M_without_24 : decode cc_M_without 24 = .ok (.bipush 61, 2) := by decide +kernel
theorem d_M_without_26 : decode cc_M_without 26 = .ok (.aload_n 0, 1) := by decide +kernel
theorem d_M_without_27 : decode cc_M_without 27 = .ok (.getfield 7, 3) := by decide +kernel
theorem d_M_without_30 : decode cc_M_without 30 = .ok (.iload 4, 2) := by decide +kernel
theorem d_M_without_32 : decode cc_M_without 32 = .ok (.iaload, 1) := by decide +kernel
theorem d_M_without_33 : decode cc_M_without 33 = .ok (.aload_n 0, 1) := by decide +kernel
theorem d_M_without_34 : decode cc_M_without 34 = .ok (.getfield 13, 3) := by decide +kernel
theorem d_M_without_37 : decode cc_M_without 37 = .ok (.iload 4, 2) := by decide +kernel
theorem d_M_without_39 : decode cc_M_without 39 = .ok (.iaload, 1) := by decide +kernel
theorem d_M_without_40 : decode cc_M_without 40 = .ok (.aload_n 0, 1) := by decide +kernel
theorem d_M_without_41 : decode cc_M_without 41 = .ok (.getfield 16, 3) := by decide +kernel
theorem d_M_without_44 : decode cc_M_without 44 = .ok (.iload 4, 2) := by decide +kernel
theorem d_M_without_46 : decode cc_M_without 46 = .ok (.iaload, 1) := by decide +kernel
theorem d_M_without_47 : decode cc_M_without 47 = .ok (.invokevirtual 87, 3) := by decide +kernel
theorem d_M_without_50 : decode cc_M_without 50 = .ok (.ifCond .eq 40, 3) := by decide +kernel
theorem d_M_without_53 : decode cc_M_without 53 = .ok (.aload_n 0, 1) := by decide +kernel
theorem d_M_without_54 : decode cc_M_without 54 = .ok (.bipush 61, 2) := by decide +kernel
theorem d_M_without_56 : decode cc_M_without 56 = .ok (.aload_n 0, 1) := by decide +kernel
theorem d_M_without_57 : decode cc_M_without 57 = .ok (.getfield 7, 3) := by decide +kernel
theorem d_M_without_60 : decode cc_M_without 60 = .ok (.iload 4, 2) := by decide +kernel
theorem d_M_without_62 : decode cc_M_without 62 = .ok (.iaload, 1) := by decide +kernel
theorem d_M_without_63 : decode cc_M_without 63 = .ok (.aload_n 0, 1) := by decide +kernel
theorem d_M_without_64 : decode cc_M_without 64 = .ok (.getfield 13, 3) := by decide +kernel
theorem d_M_without_67 : decode cc_M_without 67 = .ok (.iload 4, 2) := by decide +kernel
theorem d_M_without_69 : decode cc_M_without 69 = .ok (.iaload, 1) := by decide +kernel
theorem d_M_without_70 : decode cc_M_without 70 = .ok (.aload_n 0, 1) := by decide +kernel
theorem d_M_without_71 : decode cc_M_without 71 = .ok (.getfield 16, 3) := by decide +kernel
theorem d_M_without_74 : decode cc_M_without 74 = .ok (.iload 4, 2) := by decide +kernel
theorem d_M_without_76 : decode cc_M_without 76 = .ok (.iaload, 1) := by decide +kernel
theorem d_M_without_77 : decode cc_M_without 77 = .ok (.aload_n 0, 1) := by decide +kernel
theorem d_M_without_78 : decode cc_M_without 78 = .ok (.getfield 19, 3) := by decide +kernel
theorem d_M_without_81 : decode cc_M_without 81 = .ok (.iload 4, 2) := by decide +kernel
theorem d_M_without_83 : decode cc_M_without 83 = .ok (.iaload, 1) := by decide +kernel
theorem d_M_without_84 : decode cc_M_without 84 = .ok (.invokevirtual 97, 3) := by decide +kernel
theorem d_M_without_87 : decode cc_M_without 87 = .ok (.goto 13, 3) := by decide +kernel
theorem d_M_without_90 : decode cc_M_without 90 = .ok (.iload_n 2, 1) := by decide +kernel
theorem d_M_without_91 : decode cc_M_without 91 = .ok (.ifCond .eq 6, 3) := by decide +kernel
theorem d_M_without_94 : decode cc_M_without 94 = .ok (.iload 4, 2) := by decide +kernel
theorem d_M_without_96 : decode cc_M_without 96 = .ok (.ireturn, 1) := by decide +kernel
theorem d_M_without_97 : decode cc_M_without 97 = .ok (.iinc 3 1, 3) := by decide +kernel
theorem d_M_without_100 : decode cc_M_without 100 = .ok (.iinc 4 1, 3) := by decide +kernel
theorem d_M_without_103 : decode cc_M_without 103 = .ok (.goto (-89), 3) := by decide +kernel
theorem d_M_without_106 : decode cc_M_without 106 = .ok (.iload_n 2, 1) := by decide +kernel
theorem d_M_without_107 : decode cc_M_without 107 = .ok (.ifCond .eq 7, 3) := by decide +kernel
theorem d_M_without_110 : decode cc_M_without 110 = .ok (.iconst (-1), 1) := by decide +kernel
theorem d_M_without_111 : decode cc_M_without 111 = .ok (.goto 4, 3) := by decide +kernel
theorem d_M_without_114 : decode cc_M_without 114 = .ok (.iload_n 3, 1) := by decide +kernel
theorem d_M_without_115 : decode cc_M_without 115 = .ok (.ireturn, 1) := by decide +kernel
theorem d_M_isEvent_0 : decode cc_M_isEvent 0 = .ok (.iload_n 1, 1) := by decide +kernel
theorem d_M_isEvent_1 : decode cc_M_isEvent 1 = .ok (.iconst 0, 1) := by decide +kernel
theorem d_M_isEvent_2 : decode cc_M_isEvent 2 = .ok (.aload_n 0, 1) := by decide +kernel
theorem d_M_isEvent_3 : decode cc_M_isEvent 3 = .ok (.getfield 63, 3) := by decide +kernel
theorem d_M_isEvent_6 : decode cc_M_isEvent 6 = .ok (.iconst 1, 1) := by decide +kernel
theorem d_M_isEvent_7 : decode cc_M_isEvent 7 = .ok (.isub, 1) := by decide +kernel
theorem d_M_isEvent_8 : decode cc_M_isEvent 8 = .ok (.invokestatic 59, 3) := by decide +kernel
theorem d_M_isEvent_11 : decode cc_M_isEvent 11 = .ok (.ireturn, 1) := by decide +kernel
theorem d_M_needs_0 : decode cc_M_needs 0 = .ok (.aload_n 0, 1) := by decide +kernel
theorem d_M_needs_1 : decode cc_M_needs 1 = .ok (.aload_n 0, 1) := by decide +kernel
theorem d_M_needs_2 : decode cc_M_needs 2 = .ok (.iload_n 1, 1) := by decide +kernel
theorem d_M_needs_3 : decode cc_M_needs 3 = .ok (.invokevirtual 119, 3) := by decide +kernel
theorem d_M_needs_6 : decode cc_M_needs 6 = .ok (.ifCond .eq 7, 3) := by decide +kernel
theorem d_M_needs_9 : decode cc_M_needs 9 = .ok (.iconst 0, 1) := by decide +kernel
theorem d_M_needs_10 : decode cc_M_needs 10 = .ok (.goto 4, 3) := by decide +kernel
theorem d_M_needs_13 : decode cc_M_needs 13 = .ok (.iconst 1, 1) := by decide +kernel
theorem d_M_needs_14 : decode cc_M_needs 14 = .ok (.putfield 55, 3) := by decide +kernel
theorem d_M_needs_17 : decode cc_M_needs 17 = .ok (.aload_n 0, 1) := by decide +kernel
theorem d_M_needs_18 : decode cc_M_needs 18 = .ok (.getfield 55, 3) := by decide +kernel
theorem d_M_needs_21 : decode cc_M_needs 21 = .ok (.ifCond .le 7, 3) := by decide +kernel
theorem d_M_needs_24 : decode cc_M_needs 24 = .ok (.iconst 0, 1) := by decide +kernel
theorem d_M_needs_25 : decode cc_M_needs 25 = .ok (.goto 9, 3) := by decide +kernel
theorem d_M_needs_28 : decode cc_M_needs 28 = .ok (.aload_n 0, 1) := by decide +kernel
theorem d_M_needs_29 : decode cc_M_needs 29 = .ok (.iload_n 1, 1) := by decide +kernel
theorem d_M_needs_30 : decode cc_M_needs 30 = .ok (.iconst 0, 1) := by decide +kernel
theorem d_M_needs_31 : decode cc_M_needs 31 = .ok (.invokevirtual 122, 3) := by decide +kernel
theorem d_M_needs_34 : decode cc_M_needs 34 = .ok (.ireturn, 1) := by decide +kernel
theorem d_M_explained_0 : decode cc_M_explained 0 = .ok (.aload_n 0, 1) := by decide +kernel
theorem d_M_explained_1 : decode cc_M_explained 1 = .ok (.aload_n 0, 1) := by decide +kernel
theorem d_M_explained_2 : decode cc_M_explained 2 = .ok (.iload_n 1, 1) := by decide +kernel
theorem d_M_explained_3 : decode cc_M_explained 3 = .ok (.invokevirtual 119, 3) := by decide +kernel
theorem d_M_explained_6 : decode cc_M_explained 6 = .ok (.ifCond .eq 7, 3) := by decide +kernel
theorem d_M_explained_9 : decode cc_M_explained 9 = .ok (.iconst 0, 1) := by decide +kernel
theorem d_M_explained_10 : decode cc_M_explained 10 = .ok (.goto 4, 3) := by decide +kernel
theorem d_M_explained_13 : decode cc_M_explained 13 = .ok (.iconst 1, 1) := by decide +kernel
theorem d_M_explained_14 : decode cc_M_explained 14 = .ok (.putfield 55, 3) := by decide +kernel
theorem d_M_explained_17 : decode cc_M_explained 17 = .ok (.aload_n 0, 1) := by decide +kernel
theorem d_M_explained_18 : decode cc_M_explained 18 = .ok (.getfield 55, 3) := by decide +kernel
theorem d_M_explained_21 : decode cc_M_explained 21 = .ok (.ifCond .le 7, 3) := by decide +kernel
theorem d_M_explained_24 : decode cc_M_explained 24 = .ok (.iconst 0, 1) := by decide +kernel
theorem d_M_explained_25 : decode cc_M_explained 25 = .ok (.goto 9, 3) := by decide +kernel
theorem d_M_explained_28 : decode cc_M_explained 28 = .ok (.aload_n 0, 1) := by decide +kernel
theorem d_M_explained_29 : decode cc_M_explained 29 = .ok (.iload_n 1, 1) := by decide +kernel
theorem d_M_explained_30 : decode cc_M_explained 30 = .ok (.iconst 1, 1) := by decide +kernel
theorem d_M_explained_31 : decode cc_M_explained 31 = .ok (.invokevirtual 122, 3) := by decide +kernel
theorem d_M_explained_34 : decode cc_M_explained 34 = .ok (.ireturn, 1) := by decide +kernel
theorem d_M_told_0 : decode cc_M_told 0 = .ok (.aload_n 0, 1) := by decide +kernel
theorem d_M_told_1 : decode cc_M_told 1 = .ok (.aload_n 0, 1) := by decide +kernel
theorem d_M_told_2 : decode cc_M_told 2 = .ok (.iload_n 1, 1) := by decide +kernel
theorem d_M_told_3 : decode cc_M_told 3 = .ok (.invokevirtual 119, 3) := by decide +kernel
theorem d_M_told_6 : decode cc_M_told 6 = .ok (.ifCond .ne 7, 3) := by decide +kernel
theorem d_M_told_9 : decode cc_M_told 9 = .ok (.iconst 1, 1) := by decide +kernel
theorem d_M_told_10 : decode cc_M_told 10 = .ok (.goto 17, 3) := by decide +kernel
theorem d_M_told_13 : decode cc_M_told 13 = .ok (.iload_n 2, 1) := by decide +kernel
theorem d_M_told_14 : decode cc_M_told 14 = .ok (.iconst 0, 1) := by decide +kernel
theorem d_M_told_15 : decode cc_M_told 15 = .ok (.iconst 3, 1) := by decide +kernel
theorem d_M_told_16 : decode cc_M_told 16 = .ok (.invokestatic 59, 3) := by decide +kernel
theorem d_M_told_19 : decode cc_M_told 19 = .ok (.ifCond .ne 7, 3) := by decide +kernel
theorem d_M_told_22 : decode cc_M_told 22 = .ok (.iconst 2, 1) := by decide +kernel
theorem d_M_told_23 : decode cc_M_told 23 = .ok (.goto 4, 3) := by decide +kernel
theorem d_M_told_26 : decode cc_M_told 26 = .ok (.iconst 0, 1) := by decide +kernel
theorem d_M_told_27 : decode cc_M_told 27 = .ok (.putfield 55, 3) := by decide +kernel
theorem d_M_told_30 : decode cc_M_told 30 = .ok (.aload_n 0, 1) := by decide +kernel
theorem d_M_told_31 : decode cc_M_told 31 = .ok (.getfield 55, 3) := by decide +kernel
theorem d_M_told_34 : decode cc_M_told 34 = .ok (.ifCond .le 5, 3) := by decide +kernel
theorem d_M_told_37 : decode cc_M_told 37 = .ok (.iconst 0, 1) := by decide +kernel
theorem d_M_told_38 : decode cc_M_told 38 = .ok (.ireturn, 1) := by decide +kernel
theorem d_M_told_39 : decode cc_M_told 39 = .ok (.iload_n 2, 1) := by decide +kernel
theorem d_M_told_40 : decode cc_M_told 40 = .ok (.ifCond .ne 12, 3) := by decide +kernel
theorem d_M_told_43 : decode cc_M_told 43 = .ok (.aload_n 0, 1) := by decide +kernel
theorem d_M_told_44 : decode cc_M_told 44 = .ok (.getfield 7, 3) := by decide +kernel
theorem d_M_told_47 : decode cc_M_told 47 = .ok (.iload_n 1, 1) := by decide +kernel
theorem d_M_told_48 : decode cc_M_told 48 = .ok (.iaload, 1) := by decide +kernel
theorem d_M_told_49 : decode cc_M_told 49 = .ok (.goto 37, 3) := by decide +kernel
theorem d_M_told_52 : decode cc_M_told 52 = .ok (.iload_n 2, 1) := by decide +kernel
theorem d_M_told_53 : decode cc_M_told 53 = .ok (.iconst 1, 1) := by decide +kernel
theorem d_M_told_54 : decode cc_M_told 54 = .ok (.if_icmp .ne 12, 3) := by decide +kernel
theorem d_M_told_57 : decode cc_M_told 57 = .ok (.aload_n 0, 1) := by decide +kernel
theorem d_M_told_58 : decode cc_M_told 58 = .ok (.getfield 13, 3) := by decide +kernel
theorem d_M_told_61 : decode cc_M_told 61 = .ok (.iload_n 1, 1) := by decide +kernel
theorem d_M_told_62 : decode cc_M_told 62 = .ok (.iaload, 1) := by decide +kernel
theorem d_M_told_63 : decode cc_M_told 63 = .ok (.goto 23, 3) := by decide +kernel
theorem d_M_told_66 : decode cc_M_told 66 = .ok (.iload_n 2, 1) := by decide +kernel
theorem d_M_told_67 : decode cc_M_told 67 = .ok (.iconst 2, 1) := by decide +kernel
theorem d_M_told_68 : decode cc_M_told 68 = .ok (.if_icmp .ne 12, 3) := by decide +kernel
theorem d_M_told_71 : decode cc_M_told 71 = .ok (.aload_n 0, 1) := by decide +kernel
theorem d_M_told_72 : decode cc_M_told 72 = .ok (.getfield 16, 3) := by decide +kernel
theorem d_M_told_75 : decode cc_M_told 75 = .ok (.iload_n 1, 1) := by decide +kernel
theorem d_M_told_76 : decode cc_M_told 76 = .ok (.iaload, 1) := by decide +kernel
theorem d_M_told_77 : decode cc_M_told 77 = .ok (.goto 9, 3) := by decide +kernel
theorem d_M_told_80 : decode cc_M_told 80 = .ok (.aload_n 0, 1) := by decide +kernel
theorem d_M_told_81 : decode cc_M_told 81 = .ok (.getfield 19, 3) := by decide +kernel
theorem d_M_told_84 : decode cc_M_told 84 = .ok (.iload_n 1, 1) := by decide +kernel
theorem d_M_told_85 : decode cc_M_told 85 = .ok (.iaload, 1) := by decide +kernel
theorem d_M_told_86 : decode cc_M_told 86 = .ok (.ireturn, 1) := by decide +kernel
theorem d_M_count_0 : decode cc_M_count 0 = .ok (.aload_n 0, 1) := by decide +kernel
theorem d_M_count_1 : decode cc_M_count 1 = .ok (.iconst 0, 1) := by decide +kernel
theorem d_M_count_2 : decode cc_M_count 2 = .ok (.putfield 55, 3) := by decide +kernel
theorem d_M_count_5 : decode cc_M_count 5 = .ok (.iload_n 1, 1) := by decide +kernel
theorem d_M_count_6 : decode cc_M_count 6 = .ok (.ifCond .ne 8, 3) := by decide +kernel
theorem d_M_count_9 : decode cc_M_count 9 = .ok (.aload_n 0, 1) := by decide +kernel
theorem d_M_count_10 : decode cc_M_count 10 = .ok (.getfield 63, 3) := by decide +kernel
theorem d_M_count_13 : decode cc_M_count 13 = .ok (.ireturn, 1) := by decide +kernel
theorem d_M_count_14 : decode cc_M_count 14 = .ok (.iload_n 1, 1) := by decide +kernel
theorem d_M_count_15 : decode cc_M_count 15 = .ok (.iconst 1, 1) := by decide +kernel
theorem d_M_count_16 : decode cc_M_count 16 = .ok (.if_icmp .ne 8, 3) := by decide +kernel
theorem d_M_count_19 : decode cc_M_count 19 = .ok (.aload_n 0, 1) := by decide +kernel
theorem d_M_count_20 : decode cc_M_count 20 = .ok (.getfield 90, 3) := by decide +kernel
theorem d_M_count_23 : decode cc_M_count 23 = .ok (.ireturn, 1) := by decide +kernel
theorem d_M_count_24 : decode cc_M_count 24 = .ok (.iconst 0, 1) := by decide +kernel
theorem d_M_count_25 : decode cc_M_count 25 = .ok (.istore_n 2, 1) := by decide +kernel
theorem d_M_count_26 : decode cc_M_count 26 = .ok (.iconst 0, 1) := by decide +kernel
theorem d_M_count_27 : decode cc_M_count 27 = .ok (.istore_n 3, 1) := by decide +kernel
theorem d_M_count_28 : decode cc_M_count 28 = .ok (.iload_n 3, 1) := by decide +kernel
theorem d_M_count_29 : decode cc_M_count 29 = .ok (.bipush 20, 2) := by decide +kernel
theorem d_M_count_31 : decode cc_M_count 31 = .ok (.if_icmp .ge 40, 3) := by decide +kernel
theorem d_M_count_34 : decode cc_M_count 34 = .ok (.iload_n 1, 1) := by decide +kernel
theorem d_M_count_35 : decode cc_M_count 35 = .ok (.iconst 2, 1) := by decide +kernel
theorem d_M_count_36 : decode cc_M_count 36 = .ok (.if_icmp .ne 35, 3) := by decide +kernel
theorem d_M_count_39 : decode cc_M_count 39 = .ok (.iload_n 2, 1) := by decide +kernel
theorem d_M_count_40 : decode cc_M_count 40 = .ok (.aload_n 0, 1) := by decide +kernel
theorem d_M_count_41 : decode cc_M_count 41 = .ok (.getfield 22, 3) := by decide +kernel
theorem d_M_count_44 : decode cc_M_count 44 = .ok (.bipush 20, 2) := by decide +kernel
theorem d_M_count_46 : decode cc_M_count 46 = .ok (.aload_n 0, 1) := by decide +kernel
theorem d_M_count_47 : decode cc_M_count 47 = .ok (.getfield 63, 3) := by decide +kernel
theorem d_M_count_50 : decode cc_M_count 50 = .ok (.imul, 1) := by decide +kernel
theorem d_M_count_51 : decode cc_M_count 51 = .ok (.iload_n 3, 1) := by decide +kernel
theorem d_M_count_52 : decode cc_M_count 52 = .ok (.iadd, 1) := by decide +kernel
theorem d_M_count_53 : decode cc_M_count 53 = .ok (.iaload, 1) := by decide +kernel
theorem d_M_count_54 : decode cc_M_count 54 = .ok (.iconst (-1), 1) := by decide +kernel
theorem d_M_count_55 : decode cc_M_count 55 = .ok (.if_icmp .eq 7, 3) := by decide +kernel
theorem d_M_count_58 : decode cc_M_count 58 = .ok (.iconst 1, 1) := by decide +kernel
theorem d_M_count_59 : decode cc_M_count 59 = .ok (.goto 4, 3) := by decide +kernel
theorem d_M_count_62 : decode cc_M_count 62 = .ok (.iconst 0, 1) := by decide +kernel
theorem d_M_count_63 : decode cc_M_count 63 = .ok (.iadd, 1) := by decide +kernel
theorem d_M_count_64 : decode cc_M_count 64 = .ok (.istore_n 2, 1) := by decide +kernel
theorem d_M_count_65 : decode cc_M_count 65 = .ok (.iinc 3 1, 3) := by decide +kernel
theorem d_M_count_68 : decode cc_M_count 68 = .ok (.goto (-40), 3) := by decide +kernel
theorem d_M_count_71 : decode cc_M_count 71 = .ok (.iconst 0, 1) := by decide +kernel
theorem d_M_count_72 : decode cc_M_count 72 = .ok (.istore_n 3, 1) := by decide +kernel
theorem d_M_count_73 : decode cc_M_count 73 = .ok (.iload_n 3, 1) := by decide +kernel
theorem d_M_count_74 : decode cc_M_count 74 = .ok (.bipush 10, 2) := by decide +kernel
theorem d_M_count_76 : decode cc_M_count 76 = .ok (.if_icmp .ge 61, 3) := by decide +kernel
theorem d_M_count_79 : decode cc_M_count 79 = .ok (.iload_n 1, 1) := by decide +kernel
theorem d_M_count_80 : decode cc_M_count 80 = .ok (.iconst 3, 1) := by decide +kernel
theorem d_M_count_81 : decode cc_M_count 81 = .ok (.if_icmp .eq 8, 3) := by decide +kernel
theorem d_M_count_84 : decode cc_M_count 84 = .ok (.iload_n 1, 1) := by decide +kernel
theorem d_M_count_85 : decode cc_M_count 85 = .ok (.iconst 4, 1) := by decide +kernel
theorem d_M_count_86 : decode cc_M_count 86 = .ok (.if_icmp .ne 51, 3) := by decide +kernel
theorem d_M_count_89 : decode cc_M_count 89 = .ok (.iload_n 2, 1) := by decide +kernel
theorem d_M_count_90 : decode cc_M_count 90 = .ok (.aload_n 0, 1) := by decide +kernel
theorem d_M_count_91 : decode cc_M_count 91 = .ok (.getfield 31, 3) := by decide +kernel
theorem d_M_count_94 : decode cc_M_count 94 = .ok (.bipush 10, 2) := by decide +kernel
theorem d_M_count_96 : decode cc_M_count 96 = .ok (.aload_n 0, 1) := by decide +kernel
theorem d_M_count_97 : decode cc_M_count 97 = .ok (.getfield 63, 3) := by decide +kernel
theorem d_M_count_100 : decode cc_M_count 100 = .ok (.imul, 1) := by decide +kernel
theorem d_M_count_101 : decode cc_M_count 101 = .ok (.iload_n 3, 1) := by decide +kernel
theorem d_M_count_102 : decode cc_M_count 102 = .ok (.iadd, 1) := by decide +kernel
theorem d_M_count_103 : decode cc_M_count 103 = .ok (.iaload, 1) := by decide +kernel
theorem d_M_count_104 : decode cc_M_count 104 = .ok (.ifCond .le 24, 3) := by decide +kernel
theorem d_M_count_107 : decode cc_M_count 107 = .ok (.iload_n 1, 1) := by decide +kernel
theorem d_M_count_108 : decode cc_M_count 108 = .ok (.iconst 3, 1) := by decide +kernel
theorem d_M_count_109 : decode cc_M_count 109 = .ok (.if_icmp .eq 15, 3) := by decide +kernel
theorem d_M_count_112 : decode cc_M_count 112 = .ok (.aload_n 0, 1) := by decide +kernel
theorem d_M_count_113 : decode cc_M_count 113 = .ok (.aload_n 0, 1) := by decide +kernel
theorem d_M_count_114 : decode cc_M_count 114 = .ok (.getfield 63, 3) := by decide +kernel
theorem d_M_count_117 : decode cc_M_count 117 = .ok (.iload_n 3, 1) := by decide +kernel
theorem d_M_count_118 : decode cc_M_count 118 = .ok (.invokevirtual 73, 3) := by decide +kernel
theorem d_M_count_121 : decode cc_M_count 121 = .ok (.ifCond .ne 7, 3) := by decide +kernel
theorem d_M_count_124 : decode cc_M_count 124 = .ok (.iconst 1, 1) := by decide +kernel
theorem d_M_count_125 : decode cc_M_count 125 = .ok (.goto 4, 3) := by decide +kernel
theorem d_M_count_128 : decode cc_M_count 128 = .ok (.iconst 0, 1) := by decide +kernel
theorem d_M_count_129 : decode cc_M_count 129 = .ok (.iadd, 1) := by decide +kernel
theorem d_M_count_130 : decode cc_M_count 130 = .ok (.istore_n 2, 1) := by decide +kernel
theorem d_M_count_131 : decode cc_M_count 131 = .ok (.iinc 3 1, 3) := by decide +kernel
theorem d_M_count_134 : decode cc_M_count 134 = .ok (.goto (-61), 3) := by decide +kernel
theorem d_M_count_137 : decode cc_M_count 137 = .ok (.iconst 0, 1) := by decide +kernel
theorem d_M_count_138 : decode cc_M_count 138 = .ok (.istore_n 3, 1) := by decide +kernel
theorem d_M_count_139 : decode cc_M_count 139 = .ok (.iload_n 3, 1) := by decide +kernel
theorem d_M_count_140 : decode cc_M_count 140 = .ok (.bipush 100, 2) := by decide +kernel
theorem d_M_count_142 : decode cc_M_count 142 = .ok (.if_icmp .ge 50, 3) := by decide +kernel
theorem d_M_count_145 : decode cc_M_count 145 = .ok (.iload_n 1, 1) := by decide +kernel
theorem d_M_count_146 : decode cc_M_count 146 = .ok (.iconst 5, 1) := by decide +kernel
theorem d_M_count_147 : decode cc_M_count 147 = .ok (.if_icmp .ne 45, 3) := by decide +kernel
theorem d_M_count_150 : decode cc_M_count 150 = .ok (.iload_n 2, 1) := by decide +kernel
theorem d_M_count_151 : decode cc_M_count 151 = .ok (.iload_n 3, 1) := by decide +kernel
theorem d_M_count_152 : decode cc_M_count 152 = .ok (.bipush 10, 2) := by decide +kernel
theorem d_M_count_154 : decode cc_M_count 154 = .ok (.idiv, 1) := by decide +kernel
theorem d_M_count_155 : decode cc_M_count 155 = .ok (.iload_n 3, 1) := by decide +kernel
theorem d_M_count_156 : decode cc_M_count 156 = .ok (.bipush 10, 2) := by decide +kernel
theorem d_M_count_158 : decode cc_M_count 158 = .ok (.irem, 1) := by decide +kernel
theorem d_M_count_159 : decode cc_M_count 159 = .ok (.if_icmp .ge 24, 3) := by decide +kernel
theorem d_M_count_162 : decode cc_M_count 162 = .ok (.aload_n 0, 1) := by decide +kernel
theorem d_M_count_163 : decode cc_M_count 163 = .ok (.getfield 43, 3) := by decide +kernel
theorem d_M_count_166 : decode cc_M_count 166 = .ok (.bipush 100, 2) := by decide +kernel
theorem d_M_count_168 : decode cc_M_count 168 = .ok (.aload_n 0, 1) := by decide +kernel
theorem d_M_count_169 : decode cc_M_count 169 = .ok (.getfield 63, 3) := by decide +kernel
theorem d_M_count_172 : decode cc_M_count 172 = .ok (.imul, 1) := by decide +kernel
theorem d_M_count_173 : decode cc_M_count 173 = .ok (.iload_n 3, 1) := by decide +kernel
theorem d_M_count_174 : decode cc_M_count 174 = .ok (.iadd, 1) := by decide +kernel
theorem d_M_count_175 : decode cc_M_count 175 = .ok (.iaload, 1) := by decide +kernel
theorem d_M_count_176 : decode cc_M_count 176 = .ok (.ifCond .le 7, 3) := by decide +kernel
theorem d_M_count_179 : decode cc_M_count 179 = .ok (.iconst 1, 1) := by decide +kernel
theorem d_M_count_180 : decode cc_M_count 180 = .ok (.goto 4, 3) := by decide +kernel
theorem d_M_count_183 : decode cc_M_count 183 = .ok (.iconst 0, 1) := by decide +kernel
theorem d_M_count_184 : decode cc_M_count 184 = .ok (.iadd, 1) := by decide +kernel
theorem d_M_count_185 : decode cc_M_count 185 = .ok (.istore_n 2, 1) := by decide +kernel
theorem d_M_count_186 : decode cc_M_count 186 = .ok (.iinc 3 1, 3) := by decide +kernel
theorem d_M_count_189 : decode cc_M_count 189 = .ok (.goto (-50), 3) := by decide +kernel
theorem d_M_count_192 : decode cc_M_count 192 = .ok (.iload_n 1, 1) := by decide +kernel
theorem d_M_count_193 : decode cc_M_count 193 = .ok (.iconst 2, 1) := by decide +kernel
theorem d_M_count_194 : decode cc_M_count 194 = .ok (.iconst 5, 1) := by decide +kernel
theorem d_M_count_195 : decode cc_M_count 195 = .ok (.invokestatic 59, 3) := by decide +kernel
theorem d_M_count_198 : decode cc_M_count 198 = .ok (.ifCond .eq 7, 3) := by decide +kernel
theorem d_M_count_201 : decode cc_M_count 201 = .ok (.iload_n 2, 1) := by decide +kernel
theorem d_M_count_202 : decode cc_M_count 202 = .ok (.goto 4, 3) := by decide +kernel
theorem d_M_count_205 : decode cc_M_count 205 = .ok (.iconst (-1), 1) := by decide +kernel
theorem d_M_count_206 : decode cc_M_count 206 = .ok (.ireturn, 1) := by decide +kernel
