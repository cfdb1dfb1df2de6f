theorem dX6_init_0 : decode cX6_init 0 = .ok (.aload_n 0, 1) := by decide +kernel
theorem dX6_init_1 : decode cX6_init 1 = .ok (.invokespecial 1, 3) := by decide +kernel
theorem dX6_init_4 : decode cX6_init 4 = .ok (.aload_n 0, 1) := by decide +kernel
theorem dX6_init_5 : decode cX6_init 5 = .ok (.sipush 279, 3) := by decide +kernel
theorem dX6_init_8 : decode cX6_init 8 = .ok (.newarray .int, 2) := by decide +kernel
theorem dX6_init_10 : decode cX6_init 10 = .ok (.putfield 7, 3) := by decide +kernel
theorem dX6_init_13 : decode cX6_init 13 = .ok (.aload_n 0, 1) := by decide +kernel
theorem dX6_init_14 : decode cX6_init 14 = .ok (.bipush 60, 2) := by decide +kernel
theorem dX6_init_16 : decode cX6_init 16 = .ok (.newarray .int, 2) := by decide +kernel
theorem dX6_init_18 : decode cX6_init 18 = .ok (.putfield 13, 3) := by decide +kernel
theorem dX6_init_21 : decode cX6_init 21 = .ok (.aload_n 0, 1) := by decide +kernel
theorem dX6_init_22 : decode cX6_init 22 = .ok (.bipush 96, 2) := by decide +kernel
theorem dX6_init_24 : decode cX6_init 24 = .ok (.newarray .long, 2) := by decide +kernel
theorem dX6_init_26 : decode cX6_init 26 = .ok (.putfield 16, 3) := by decide +kernel
theorem dX6_init_29 : decode cX6_init 29 = .ok (.aload_n 0, 1) := by decide +kernel
theorem dX6_init_30 : decode cX6_init 30 = .ok (.iconst 4, 1) := by decide +kernel
theorem dX6_init_31 : decode cX6_init 31 = .ok (.newarray .int, 2) := by decide +kernel
theorem dX6_init_33 : decode cX6_init 33 = .ok (.putfield 20, 3) := by decide +kernel
theorem dX6_init_36 : decode cX6_init 36 = .ok (.aload_n 0, 1) := by decide +kernel
theorem dX6_init_37 : decode cX6_init 37 = .ok (.iconst 4, 1) := by decide +kernel
theorem dX6_init_38 : decode cX6_init 38 = .ok (.newarray .int, 2) := by decide +kernel
theorem dX6_init_40 : decode cX6_init 40 = .ok (.putfield 23, 3) := by decide +kernel
theorem dX6_init_43 : decode cX6_init 43 = .ok (.aload_n 0, 1) := by decide +kernel
theorem dX6_init_44 : decode cX6_init 44 = .ok (.bipush 8, 2) := by decide +kernel
theorem dX6_init_46 : decode cX6_init 46 = .ok (.newarray .int, 2) := by decide +kernel
theorem dX6_init_48 : decode cX6_init 48 = .ok (.putfield 26, 3) := by decide +kernel
theorem dX6_init_51 : decode cX6_init 51 = .ok (.aload_n 0, 1) := by decide +kernel
theorem dX6_init_52 : decode cX6_init 52 = .ok (.sipush 256, 3) := by decide +kernel
theorem dX6_init_55 : decode cX6_init 55 = .ok (.newarray .int, 2) := by decide +kernel
theorem dX6_init_57 : decode cX6_init 57 = .ok (.putfield 29, 3) := by decide +kernel
theorem dX6_init_60 : decode cX6_init 60 = .ok (.aload_n 0, 1) := by decide +kernel
theorem dX6_init_61 : decode cX6_init 61 = .ok (.sipush 256, 3) := by decide +kernel
theorem dX6_init_64 : decode cX6_init 64 = .ok (.newarray .int, 2) := by decide +kernel
theorem dX6_init_66 : decode cX6_init 66 = .ok (.putfield 32, 3) := by decide +kernel
theorem dX6_init_69 : decode cX6_init 69 = .ok (.aload_n 0, 1) := by decide +kernel
theorem dX6_init_70 : decode cX6_init 70 = .ok (.sipush 256, 3) := by decide +kernel
theorem dX6_init_73 : decode cX6_init 73 = .ok (.newarray .int, 2) := by decide +kernel
theorem dX6_init_75 : decode cX6_init 75 = .ok (.putfield 35, 3) := by decide +kernel
theorem dX6_init_78 : decode cX6_init 78 = .ok (.aload_n 0, 1) := by decide +kernel
theorem dX6_init_79 : decode cX6_init 79 = .ok (.bipush 64, 2) := by decide +kernel
theorem dX6_init_81 : decode cX6_init 81 = .ok (.newarray .int, 2) := by decide +kernel
theorem dX6_init_83 : decode cX6_init 83 = .ok (.putfield 38, 3) := by decide +kernel
theorem dX6_init_86 : decode cX6_init 86 = .ok (.aload_n 0, 1) := by decide +kernel
theorem dX6_init_87 : decode cX6_init 87 = .ok (.bipush 8, 2) := by decide +kernel
theorem dX6_init_89 : decode cX6_init 89 = .ok (.newarray .long, 2) := by decide +kernel
theorem dX6_init_91 : decode cX6_init 91 = .ok (.putfield 41, 3) := by decide +kernel
theorem dX6_init_94 : decode cX6_init 94 = .ok (.aload_n 0, 1) := by decide +kernel
theorem dX6_init_95 : decode cX6_init 95 = .ok (.bipush 8, 2) := by decide +kernel
theorem dX6_init_97 : decode cX6_init 97 = .ok (.newarray .long, 2) := by decide +kernel
theorem dX6_init_99 : decode cX6_init 99 = .ok (.putfield 44, 3) := by decide +kernel
theorem dX6_init_102 : decode cX6_init 102 = .ok (.aload_n 0, 1) := by decide +kernel
theorem dX6_init_103 : decode cX6_init 103 = .ok (.bipush 24, 2) := by decide +kernel
theorem dX6_init_105 : decode cX6_init 105 = .ok (.newarray .long, 2) := by decide +kernel
theorem dX6_init_107 : decode cX6_init 107 = .ok (.putfield 47, 3) := by decide +kernel
theorem dX6_init_110 : decode cX6_init 110 = .ok (.iconst 0, 1) := by decide +kernel
theorem dX6_init_111 : decode cX6_init 111 = .ok (.istore_n 1, 1) := by decide +kernel
theorem dX6_init_112 : decode cX6_init 112 = .ok (.iload_n 1, 1) := by decide +kernel
theorem dX6_init_113 : decode cX6_init 113 = .ok (.iconst 4, 1) := by decide +kernel
theorem dX6_init_114 : decode cX6_init 114 = .ok (.if_icmp .ge 16, 3) := by decide +kernel
theorem dX6_init_117 : decode cX6_init 117 = .ok (.aload_n 0, 1) := by decide +kernel
theorem dX6_init_118 : decode cX6_init 118 = .ok (.getfield 20, 3) := by decide +kernel
theorem dX6_init_121 : decode cX6_init 121 = .ok (.iload_n 1, 1) := by decide +kernel
theorem dX6_init_122 : decode cX6_init 122 = .ok (.iconst (-1), 1) := by decide +kernel
theorem dX6_init_123 : decode cX6_init 123 = .ok (.iastore, 1) := by decide +kernel
theorem dX6_init_124 : decode cX6_init 124 = .ok (.iinc 1 1, 3) := by decide +kernel
theorem dX6_init_127 : decode cX6_init 127 = .ok (.goto (-15), 3) := by decide +kernel
theorem dX6_init_130 : decode cX6_init 130 = .ok (.iconst 0, 1) := by decide +kernel
theorem dX6_init_131 : decode cX6_init 131 = .ok (.istore_n 1, 1) := by decide +kernel
theorem dX6_init_132 : decode cX6_init 132 = .ok (.iload_n 1, 1) := by decide +kernel
theorem dX6_init_133 : decode cX6_init 133 = .ok (.bipush 8, 2) := by decide +kernel
theorem dX6_init_135 : decode cX6_init 135 = .ok (.if_icmp .ge 19, 3) := by decide +kernel
theorem dX6_init_138 : decode cX6_init 138 = .ok (.aload_n 0, 1) := by decide +kernel
theorem dX6_init_139 : decode cX6_init 139 = .ok (.getfield 7, 3) := by decide +kernel
theorem dX6_init_142 : decode cX6_init 142 = .ok (.iconst 5, 1) := by decide +kernel
theorem dX6_init_143 : decode cX6_init 143 = .ok (.iload_n 1, 1) := by decide +kernel
theorem dX6_init_144 : decode cX6_init 144 = .ok (.iadd, 1) := by decide +kernel
theorem dX6_init_145 : decode cX6_init 145 = .ok (.bipush (-4), 2) := by decide +kernel
theorem dX6_init_147 : decode cX6_init 147 = .ok (.iastore, 1) := by decide +kernel
theorem dX6_init_148 : decode cX6_init 148 = .ok (.iinc 1 1, 3) := by decide +kernel
theorem dX6_init_151 : decode cX6_init 151 = .ok (.goto (-19), 3) := by decide +kernel
theorem dX6_init_154 : decode cX6_init 154 = .ok (.aload_n 0, 1) := by decide +kernel
theorem dX6_init_155 : decode cX6_init 155 = .ok (.getfield 7, 3) := by decide +kernel
theorem dX6_init_158 : decode cX6_init 158 = .ok (.iconst 4, 1) := by decide +kernel
theorem dX6_init_159 : decode cX6_init 159 = .ok (.iconst 1, 1) := by decide +kernel
theorem dX6_init_160 : decode cX6_init 160 = .ok (.iastore, 1) := by decide +kernel
theorem dX6_init_161 : decode cX6_init 161 = .ok (.return_, 1) := by decide +kernel
theorem dX6_in_0 : decode cX6_in 0 = .ok (.lload_n 0, 1) := by decide +kernel
theorem dX6_in_1 : decode cX6_in 1 = .ok (.lload_n 2, 1) := by decide +kernel
theorem dX6_in_2 : decode cX6_in 2 = .ok (.lcmp, 1) := by decide +kernel
theorem dX6_in_3 : decode cX6_in 3 = .ok (.ifCond .lt 14, 3) := by decide +kernel
theorem dX6_in_6 : decode cX6_in 6 = .ok (.lload_n 0, 1) := by decide +kernel
theorem dX6_in_7 : decode cX6_in 7 = .ok (.lload 4, 2) := by decide +kernel
theorem dX6_in_9 : decode cX6_in 9 = .ok (.lcmp, 1) := by decide +kernel
theorem dX6_in_10 : decode cX6_in 10 = .ok (.ifCond .gt 7, 3) := by decide +kernel
theorem dX6_in_13 : decode cX6_in 13 = .ok (.iconst 1, 1) := by decide +kernel
theorem dX6_in_14 : decode cX6_in 14 = .ok (.goto 4, 3) := by decide +kernel
theorem dX6_in_17 : decode cX6_in 17 = .ok (.iconst 0, 1) := by decide +kernel
theorem dX6_in_18 : decode cX6_in 18 = .ok (.ireturn, 1) := by decide +kernel
theorem dX6_has_0 : decode cX6_has 0 = .ok (.iload_n 0, 1) := by decide +kernel
theorem dX6_has_1 : decode cX6_has 1 = .ok (.iload_n 1, 1) := by decide +kernel
theorem dX6_has_2 : decode cX6_has 2 = .ok (.ishr, 1) := by decide +kernel
theorem dX6_has_3 : decode cX6_has 3 = .ok (.iconst 1, 1) := by decide +kernel
theorem dX6_has_4 : decode cX6_has 4 = .ok (.iand, 1) := by decide +kernel
theorem dX6_has_5 : decode cX6_has 5 = .ok (.iconst 1, 1) := by decide +kernel
theorem dX6_has_6 : decode cX6_has 6 = .ok (.if_icmp .ne 7, 3) := by decide +kernel
theorem dX6_has_9 : decode cX6_has 9 = .ok (.iconst 1, 1) := by decide +kernel
theorem dX6_has_10 : decode cX6_has 10 = .ok (.goto 4, 3) := by decide +kernel
theorem dX6_has_13 : decode cX6_has 13 = .ok (.iconst 0, 1) := by decide +kernel
theorem dX6_has_14 : decode cX6_has 14 = .ok (.ireturn, 1) := by decide +kernel
theorem dX6_ones_0 : decode cX6_ones 0 = .ok (.iconst 0, 1) := by decide +kernel
theorem dX6_ones_1 : decode cX6_ones 1 = .ok (.istore_n 1, 1) := by decide +kernel
theorem dX6_ones_2 : decode cX6_ones 2 = .ok (.iconst 0, 1) := by decide +kernel
theorem dX6_ones_3 : decode cX6_ones 3 = .ok (.istore_n 2, 1) := by decide +kernel
theorem dX6_ones_4 : decode cX6_ones 4 = .ok (.iload_n 2, 1) := by decide +kernel
theorem dX6_ones_5 : decode cX6_ones 5 = .ok (.bipush 8, 2) := by decide +kernel
theorem dX6_ones_7 : decode cX6_ones 7 = .ok (.if_icmp .ge 17, 3) := by decide +kernel
theorem dX6_ones_10 : decode cX6_ones 10 = .ok (.iload_n 1, 1) := by decide +kernel
theorem dX6_ones_11 : decode cX6_ones 11 = .ok (.iload_n 0, 1) := by decide +kernel
theorem dX6_ones_12 : decode cX6_ones 12 = .ok (.iload_n 2, 1) := by decide +kernel
theorem dX6_ones_13 : decode cX6_ones 13 = .ok (.ishr, 1) := by decide +kernel
theorem dX6_ones_14 : decode cX6_ones 14 = .ok (.iconst 1, 1) := by decide +kernel
theorem dX6_ones_15 : decode cX6_ones 15 = .ok (.iand, 1) := by decide +kernel
theorem dX6_ones_16 : decode cX6_ones 16 = .ok (.iadd, 1) := by decide +kernel
theorem dX6_ones_17 : decode cX6_ones 17 = .ok (.istore_n 1, 1) := by decide +kernel
theorem dX6_ones_18 : decode cX6_ones 18 = .ok (.iinc 2 1, 3) := by decide +kernel
theorem dX6_ones_21 : decode cX6_ones 21 = .ok (.goto (-17), 3) := by decide +kernel
theorem dX6_ones_24 : decode cX6_ones 24 = .ok (.iload_n 1, 1) := by decide +kernel
theorem dX6_ones_25 : decode cX6_ones 25 = .ok (.ireturn, 1) := by decide +kernel
theorem dX6_bring_0 : decode cX6_bring 0 = .ok (.iconst 0, 1) := by decide +kernel
theorem dX6_bring_1 : decode cX6_bring 1 = .ok (.istore 4, 2) := by decide +kernel
theorem dX6_bring_3 : decode cX6_bring 3 = .ok (.iload 4, 2) := by decide +kernel
theorem dX6_bring_5 : decode cX6_bring 5 = .ok (.iload_n 3, 1) := by decide +kernel
theorem dX6_bring_6 : decode cX6_bring 6 = .ok (.if_icmp .ge 27, 3) := by decide +kernel
theorem dX6_bring_9 : decode cX6_bring 9 = .ok (.aload_n 0, 1) := by decide +kernel
theorem dX6_bring_10 : decode cX6_bring 10 = .ok (.getfield 7, 3) := by decide +kernel
theorem dX6_bring_13 : decode cX6_bring 13 = .ok (.iload_n 2, 1) := by decide +kernel
theorem dX6_bring_14 : decode cX6_bring 14 = .ok (.iload 4, 2) := by decide +kernel
theorem dX6_bring_16 : decode cX6_bring 16 = .ok (.iadd, 1) := by decide +kernel
theorem dX6_bring_17 : decode cX6_bring 17 = .ok (.aload_n 0, 1) := by decide +kernel
theorem dX6_bring_18 : decode cX6_bring 18 = .ok (.getfield 7, 3) := by decide +kernel
theorem dX6_bring_21 : decode cX6_bring 21 = .ok (.iload_n 1, 1) := by decide +kernel
theorem dX6_bring_22 : decode cX6_bring 22 = .ok (.iload 4, 2) := by decide +kernel
theorem dX6_bring_24 : decode cX6_bring 24 = .ok (.iadd, 1) := by decide +kernel
theorem dX6_bring_25 : decode cX6_bring 25 = .ok (.iaload, 1) := by decide +kernel
theorem dX6_bring_26 : decode cX6_bring 26 = .ok (.iastore, 1) := by decide +kernel
theorem dX6_bring_27 : decode cX6_bring 27 = .ok (.iinc 4 1, 3) := by decide +kernel
theorem dX6_bring_30 : decode cX6_bring 30 = .ok (.goto (-27), 3) := by decide +kernel
theorem dX6_bring_33 : decode cX6_bring 33 = .ok (.return_, 1) := by decide +kernel
theorem dX6_isPlace_0 : decode cX6_isPlace 0 = .ok (.iload_n 0, 1) := by decide +kernel
theorem dX6_isPlace_1 : decode cX6_isPlace 1 = .ok (.i2l, 1) := by decide +kernel
theorem dX6_isPlace_2 : decode cX6_isPlace 2 = .ok (.lconst 0, 1) := by decide +kernel
theorem dX6_isPlace_3 : decode cX6_isPlace 3 = .ok (.ldc2_w 50, 3) := by decide +kernel
theorem dX6_isPlace_6 : decode cX6_isPlace 6 = .ok (.invokestatic 52, 3) := by decide +kernel
theorem dX6_isPlace_9 : decode cX6_isPlace 9 = .ok (.ireturn, 1) := by decide +kernel
theorem dX6_isAngel_0 : decode cX6_isAngel 0 = .ok (.iload_n 1, 1) := by decide +kernel
theorem dX6_isAngel_1 : decode cX6_isAngel 1 = .ok (.i2l, 1) := by decide +kernel
theorem dX6_isAngel_2 : decode cX6_isAngel 2 = .ok (.lconst 0, 1) := by decide +kernel
theorem dX6_isAngel_3 : decode cX6_isAngel 3 = .ok (.aload_n 0, 1) := by decide +kernel
theorem dX6_isAngel_4 : decode cX6_isAngel 4 = .ok (.getfield 7, 3) := by decide +kernel
theorem dX6_isAngel_7 : decode cX6_isAngel 7 = .ok (.iconst 0, 1) := by decide +kernel
theorem dX6_isAngel_8 : decode cX6_isAngel 8 = .ok (.iaload, 1) := by decide +kernel
theorem dX6_isAngel_9 : decode cX6_isAngel 9 = .ok (.iconst 1, 1) := by decide +kernel
theorem dX6_isAngel_10 : decode cX6_isAngel 10 = .ok (.isub, 1) := by decide +kernel
theorem dX6_isAngel_11 : decode cX6_isAngel 11 = .ok (.i2l, 1) := by decide +kernel
theorem dX6_isAngel_12 : decode cX6_isAngel 12 = .ok (.invokestatic 52, 3) := by decide +kernel
theorem dX6_isAngel_15 : decode cX6_isAngel 15 = .ok (.ireturn, 1) := by decide +kernel
theorem dX6_isFigure_0 : decode cX6_isFigure 0 = .ok (.iload_n 1, 1) := by decide +kernel
theorem dX6_isFigure_1 : decode cX6_isFigure 1 = .ok (.i2l, 1) := by decide +kernel
theorem dX6_isFigure_2 : decode cX6_isFigure 2 = .ok (.lconst 0, 1) := by decide +kernel
theorem dX6_isFigure_3 : decode cX6_isFigure 3 = .ok (.aload_n 0, 1) := by decide +kernel
theorem dX6_isFigure_4 : decode cX6_isFigure 4 = .ok (.getfield 7, 3) := by decide +kernel
theorem dX6_isFigure_7 : decode cX6_isFigure 7 = .ok (.iconst 1, 1) := by decide +kernel
theorem dX6_isFigure_8 : decode cX6_isFigure 8 = .ok (.iaload, 1) := by decide +kernel
theorem dX6_isFigure_9 : decode cX6_isFigure 9 = .ok (.iconst 1, 1) := by decide +kernel
theorem dX6_isFigure_10 : decode cX6_isFigure 10 = .ok (.isub, 1) := by decide +kernel
theorem dX6_isFigure_11 : decode cX6_isFigure 11 = .ok (.i2l, 1) := by decide +kernel
theorem dX6_isFigure_12 : decode cX6_isFigure 12 = .ok (.invokestatic 52, 3) := by decide +kernel
theorem dX6_isFigure_15 : decode cX6_isFigure 15 = .ok (.ireturn, 1) := by decide +kernel
theorem dX6_round_0 : decode cX6_round 0 = .ok (.iload_n 0, 1) := by decide +kernel
theorem dX6_round_1 : decode cX6_round 1 = .ok (.iload_n 1, 1) := by decide +kernel
theorem dX6_round_2 : decode cX6_round 2 = .ok (.iadd, 1) := by decide +kernel
theorem dX6_round_3 : decode cX6_round 3 = .ok (.bipush 8, 2) := by decide +kernel
theorem dX6_round_5 : decode cX6_round 5 = .ok (.irem, 1) := by decide +kernel
theorem dX6_round_6 : decode cX6_round 6 = .ok (.ireturn, 1) := by decide +kernel
theorem dX6_mirror_0 : decode cX6_mirror 0 = .ok (.bipush 8, 2) := by decide +kernel
theorem dX6_mirror_2 : decode cX6_mirror 2 = .ok (.iload_n 0, 1) := by decide +kernel
theorem dX6_mirror_3 : decode cX6_mirror 3 = .ok (.isub, 1) := by decide +kernel
theorem dX6_mirror_4 : decode cX6_mirror 4 = .ok (.bipush 8, 2) := by decide +kernel
theorem dX6_mirror_6 : decode cX6_mirror 6 = .ok (.irem, 1) := by decide +kernel
theorem dX6_mirror_7 : decode cX6_mirror 7 = .ok (.iload_n 1, 1) := by decide +kernel
theorem dX6_mirror_8 : decode cX6_mirror 8 = .ok (.invokestatic 56, 3) := by decide +kernel
theorem dX6_mirror_11 : decode cX6_mirror 11 = .ok (.ireturn, 1) := by decide +kernel
theorem dX6_leadsBy_0 : decode cX6_leadsBy 0 = .ok (.iload_n 0, 1) := by decide +kernel
theorem dX6_leadsBy_1 : decode cX6_leadsBy 1 = .ok (.tableswitch 98 1 4 #[31, 41, 47, 67], 31) := by decide +kernel
theorem dX6_leadsBy_32 : decode cX6_leadsBy 32 = .ok (.iload_n 2, 1) := by decide +kernel
theorem dX6_leadsBy_33 : decode cX6_leadsBy 33 = .ok (.iload_n 1, 1) := by decide +kernel
theorem dX6_leadsBy_34 : decode cX6_leadsBy 34 = .ok (.invokestatic 56, 3) := by decide +kernel
theorem dX6_leadsBy_37 : decode cX6_leadsBy 37 = .ok (.iload_n 1, 1) := by decide +kernel
theorem dX6_leadsBy_38 : decode cX6_leadsBy 38 = .ok (.invokestatic 56, 3) := by decide +kernel
theorem dX6_leadsBy_41 : decode cX6_leadsBy 41 = .ok (.ireturn, 1) := by decide +kernel
theorem dX6_leadsBy_42 : decode cX6_leadsBy 42 = .ok (.iload_n 2, 1) := by decide +kernel
theorem dX6_leadsBy_43 : decode cX6_leadsBy 43 = .ok (.iload_n 1, 1) := by decide +kernel
theorem dX6_leadsBy_44 : decode cX6_leadsBy 44 = .ok (.invokestatic 60, 3) := by decide +kernel
theorem dX6_leadsBy_47 : decode cX6_leadsBy 47 = .ok (.ireturn, 1) := by decide +kernel
theorem dX6_leadsBy_48 : decode cX6_leadsBy 48 = .ok (.iload_n 2, 1) := by decide +kernel
theorem dX6_leadsBy_49 : decode cX6_leadsBy 49 = .ok (.iconst 2, 1) := by decide +kernel
theorem dX6_leadsBy_50 : decode cX6_leadsBy 50 = .ok (.irem, 1) := by decide +kernel
theorem dX6_leadsBy_51 : decode cX6_leadsBy 51 = .ok (.ifCond .ne 15, 3) := by decide +kernel
theorem dX6_leadsBy_54 : decode cX6_leadsBy 54 = .ok (.iload_n 2, 1) := by decide +kernel
theorem dX6_leadsBy_55 : decode cX6_leadsBy 55 = .ok (.iload_n 1, 1) := by decide +kernel
theorem dX6_leadsBy_56 : decode cX6_leadsBy 56 = .ok (.invokestatic 56, 3) := by decide +kernel
theorem dX6_leadsBy_59 : decode cX6_leadsBy 59 = .ok (.iload_n 1, 1) := by decide +kernel
theorem dX6_leadsBy_60 : decode cX6_leadsBy 60 = .ok (.invokestatic 56, 3) := by decide +kernel
theorem dX6_leadsBy_63 : decode cX6_leadsBy 63 = .ok (.goto 4, 3) := by decide +kernel
theorem dX6_leadsBy_66 : decode cX6_leadsBy 66 = .ok (.iload_n 2, 1) := by decide +kernel
theorem dX6_leadsBy_67 : decode cX6_leadsBy 67 = .ok (.ireturn, 1) := by decide +kernel
theorem dX6_leadsBy_68 : decode cX6_leadsBy 68 = .ok (.iload_n 2, 1) := by decide +kernel
theorem dX6_leadsBy_69 : decode cX6_leadsBy 69 = .ok (.iload_n 1, 1) := by decide +kernel
theorem dX6_leadsBy_70 : decode cX6_leadsBy 70 = .ok (.invokestatic 60, 3) := by decide +kernel
theorem dX6_leadsBy_73 : decode cX6_leadsBy 73 = .ok (.ifCond .ne 7, 3) := by decide +kernel
theorem dX6_leadsBy_76 : decode cX6_leadsBy 76 = .ok (.iconst 4, 1) := by decide +kernel
theorem dX6_leadsBy_77 : decode cX6_leadsBy 77 = .ok (.goto 21, 3) := by decide +kernel
theorem dX6_leadsBy_80 : decode cX6_leadsBy 80 = .ok (.iload_n 2, 1) := by decide +kernel
theorem dX6_leadsBy_81 : decode cX6_leadsBy 81 = .ok (.iload_n 1, 1) := by decide +kernel
theorem dX6_leadsBy_82 : decode cX6_leadsBy 82 = .ok (.invokestatic 60, 3) := by decide +kernel
theorem dX6_leadsBy_85 : decode cX6_leadsBy 85 = .ok (.iconst 4, 1) := by decide +kernel
theorem dX6_leadsBy_86 : decode cX6_leadsBy 86 = .ok (.if_icmp .ne 7, 3) := by decide +kernel
theorem dX6_leadsBy_89 : decode cX6_leadsBy 89 = .ok (.iconst 0, 1) := by decide +kernel
theorem dX6_leadsBy_90 : decode cX6_leadsBy 90 = .ok (.goto 8, 3) := by decide +kernel
theorem dX6_leadsBy_93 : decode cX6_leadsBy 93 = .ok (.iload_n 2, 1) := by decide +kernel
theorem dX6_leadsBy_94 : decode cX6_leadsBy 94 = .ok (.iload_n 1, 1) := by decide +kernel
theorem dX6_leadsBy_95 : decode cX6_leadsBy 95 = .ok (.invokestatic 60, 3) := by decide +kernel
theorem dX6_leadsBy_98 : decode cX6_leadsBy 98 = .ok (.ireturn, 1) := by decide +kernel
theorem dX6_leadsBy_99 : decode cX6_leadsBy 99 = .ok (.iload_n 2, 1) := by decide +kernel
theorem dX6_leadsBy_100 : decode cX6_leadsBy 100 = .ok (.iload_n 1, 1) := by decide +kernel
theorem dX6_leadsBy_101 : decode cX6_leadsBy 101 = .ok (.invokestatic 56, 3) := by decide +kernel
theorem dX6_leadsBy_104 : decode cX6_leadsBy 104 = .ok (.ireturn, 1) := by decide +kernel
theorem dX6_leadsOf_0 : decode cX6_leadsOf 0 = .ok (.aload_n 0, 1) := by decide +kernel
theorem dX6_leadsOf_1 : decode cX6_leadsOf 1 = .ok (.getfield 7, 3) := by decide +kernel
theorem dX6_leadsOf_4 : decode cX6_leadsOf 4 = .ok (.bipush 13, 2) := by decide +kernel
theorem dX6_leadsOf_6 : decode cX6_leadsOf 6 = .ok (.iload_n 1, 1) := by decide +kernel
theorem dX6_leadsOf_7 : decode cX6_leadsOf 7 = .ok (.iadd, 1) := by decide +kernel
theorem dX6_leadsOf_8 : decode cX6_leadsOf 8 = .ok (.iaload, 1) := by decide +kernel
theorem dX6_leadsOf_9 : decode cX6_leadsOf 9 = .ok (.aload_n 0, 1) := by decide +kernel
theorem dX6_leadsOf_10 : decode cX6_leadsOf 10 = .ok (.getfield 7, 3) := by decide +kernel
theorem dX6_leadsOf_13 : decode cX6_leadsOf 13 = .ok (.bipush 18, 2) := by decide +kernel
theorem dX6_leadsOf_15 : decode cX6_leadsOf 15 = .ok (.iload_n 1, 1) := by decide +kernel
theorem dX6_leadsOf_16 : decode cX6_leadsOf 16 = .ok (.iadd, 1) := by decide +kernel
theorem dX6_leadsOf_17 : decode cX6_leadsOf 17 = .ok (.iaload, 1) := by decide +kernel
theorem dX6_leadsOf_18 : decode cX6_leadsOf 18 = .ok (.iload_n 2, 1) := by decide +kernel
theorem dX6_leadsOf_19 : decode cX6_leadsOf 19 = .ok (.invokestatic 63, 3) := by decide +kernel
theorem dX6_leadsOf_22 : decode cX6_leadsOf 22 = .ok (.ireturn, 1) := by decide +kernel
theorem dX6_orderOf_0 : decode cX6_orderOf 0 = .ok (.iconst 0, 1) := by decide +kernel
theorem dX6_orderOf_1 : decode cX6_orderOf 1 = .ok (.istore_n 2, 1) := by decide +kernel
theorem dX6_orderOf_2 : decode cX6_orderOf 2 = .ok (.iconst 0, 1) := by decide +kernel
theorem dX6_orderOf_3 : decode cX6_orderOf 3 = .ok (.istore_n 3, 1) := by decide +kernel
theorem dX6_orderOf_4 : decode cX6_orderOf 4 = .ok (.iconst 0, 1) := by decide +kernel
theorem dX6_orderOf_5 : decode cX6_orderOf 5 = .ok (.istore 4, 2) := by decide +kernel
theorem dX6_orderOf_7 : decode cX6_orderOf 7 = .ok (.iload 4, 2) := by decide +kernel
theorem dX6_orderOf_9 : decode cX6_orderOf 9 = .ok (.bipush 8, 2) := by decide +kernel
theorem dX6_orderOf_11 : decode cX6_orderOf 11 = .ok (.if_icmp .ge 18, 3) := by decide +kernel
theorem dX6_orderOf_14 : decode cX6_orderOf 14 = .ok (.aload_n 0, 1) := by decide +kernel
theorem dX6_orderOf_15 : decode cX6_orderOf 15 = .ok (.getfield 26, 3) := by decide +kernel
theorem dX6_orderOf_18 : decode cX6_orderOf 18 = .ok (.iload 4, 2) := by decide +kernel
theorem dX6_orderOf_20 : decode cX6_orderOf 20 = .ok (.iload 4, 2) := by decide +kernel
theorem dX6_orderOf_22 : decode cX6_orderOf 22 = .ok (.iastore, 1) := by decide +kernel
theorem dX6_orderOf_23 : decode cX6_orderOf 23 = .ok (.iinc 4 1, 3) := by decide +kernel
theorem dX6_orderOf_26 : decode cX6_orderOf 26 = .ok (.goto (-19), 3) := by decide +kernel
theorem dX6_orderOf_29 : decode cX6_orderOf 29 = .ok (.iload_n 3, 1) := by decide +kernel
theorem dX6_orderOf_30 : decode cX6_orderOf 30 = .ok (.ifCond .ne 68, 3) := by decide +kernel
theorem dX6_orderOf_33 : decode cX6_orderOf 33 = .ok (.iconst 1, 1) := by decide +kernel
theorem dX6_orderOf_34 : decode cX6_orderOf 34 = .ok (.istore_n 3, 1) := by decide +kernel
theorem dX6_orderOf_35 : decode cX6_orderOf 35 = .ok (.iinc 2 1, 3) := by decide +kernel
theorem dX6_orderOf_38 : decode cX6_orderOf 38 = .ok (.iconst 0, 1) := by decide +kernel
theorem dX6_orderOf_39 : decode cX6_orderOf 39 = .ok (.istore 4, 2) := by decide +kernel
theorem dX6_orderOf_41 : decode cX6_orderOf 41 = .ok (.iload 4, 2) := by decide +kernel
theorem dX6_orderOf_43 : decode cX6_orderOf 43 = .ok (.bipush 8, 2) := by decide +kernel
theorem dX6_orderOf_45 : decode cX6_orderOf 45 = .ok (.if_icmp .ge 50, 3) := by decide +kernel
theorem dX6_orderOf_48 : decode cX6_orderOf 48 = .ok (.aload_n 0, 1) := by decide +kernel
theorem dX6_orderOf_49 : decode cX6_orderOf 49 = .ok (.getfield 26, 3) := by decide +kernel
theorem dX6_orderOf_52 : decode cX6_orderOf 52 = .ok (.iload 4, 2) := by decide +kernel
theorem dX6_orderOf_54 : decode cX6_orderOf 54 = .ok (.aload_n 0, 1) := by decide +kernel
theorem dX6_orderOf_55 : decode cX6_orderOf 55 = .ok (.iload_n 1, 1) := by decide +kernel
theorem dX6_orderOf_56 : decode cX6_orderOf 56 = .ok (.aload_n 0, 1) := by decide +kernel
theorem dX6_orderOf_57 : decode cX6_orderOf 57 = .ok (.getfield 26, 3) := by decide +kernel
theorem dX6_orderOf_60 : decode cX6_orderOf 60 = .ok (.iload 4, 2) := by decide +kernel
theorem dX6_orderOf_62 : decode cX6_orderOf 62 = .ok (.iaload, 1) := by decide +kernel
theorem dX6_orderOf_63 : decode cX6_orderOf 63 = .ok (.invokevirtual 67, 3) := by decide +kernel
theorem dX6_orderOf_66 : decode cX6_orderOf 66 = .ok (.iastore, 1) := by decide +kernel
theorem dX6_orderOf_67 : decode cX6_orderOf 67 = .ok (.iload_n 3, 1) := by decide +kernel
theorem dX6_orderOf_68 : decode cX6_orderOf 68 = .ok (.ifCond .eq 19, 3) := by decide +kernel
theorem dX6_orderOf_71 : decode cX6_orderOf 71 = .ok (.aload_n 0, 1) := by decide +kernel
theorem dX6_orderOf_72 : decode cX6_orderOf 72 = .ok (.getfield 26, 3) := by decide +kernel
theorem dX6_orderOf_75 : decode cX6_orderOf 75 = .ok (.iload 4, 2) := by decide +kernel
theorem dX6_orderOf_77 : decode cX6_orderOf 77 = .ok (.iaload, 1) := by decide +kernel
theorem dX6_orderOf_78 : decode cX6_orderOf 78 = .ok (.iload 4, 2) := by decide +kernel
theorem dX6_orderOf_80 : decode cX6_orderOf 80 = .ok (.if_icmp .ne 7, 3) := by decide +kernel
theorem dX6_orderOf_83 : decode cX6_orderOf 83 = .ok (.iconst 1, 1) := by decide +kernel
theorem dX6_orderOf_84 : decode cX6_orderOf 84 = .ok (.goto 4, 3) := by decide +kernel
theorem dX6_orderOf_87 : decode cX6_orderOf 87 = .ok (.iconst 0, 1) := by decide +kernel
theorem dX6_orderOf_88 : decode cX6_orderOf 88 = .ok (.istore_n 3, 1) := by decide +kernel
theorem dX6_orderOf_89 : decode cX6_orderOf 89 = .ok (.iinc 4 1, 3) := by decide +kernel
theorem dX6_orderOf_92 : decode cX6_orderOf 92 = .ok (.goto (-51), 3) := by decide +kernel
theorem dX6_orderOf_95 : decode cX6_orderOf 95 = .ok (.goto (-66), 3) := by decide +kernel
theorem dX6_orderOf_98 : decode cX6_orderOf 98 = .ok (.iload_n 2, 1) := by decide +kernel
theorem dX6_orderOf_99 : decode cX6_orderOf 99 = .ok (.ireturn, 1) := by decide +kernel
theorem dX6_keptBy_0 : decode cX6_keptBy 0 = .ok (.iconst 0, 1) := by decide +kernel
theorem dX6_keptBy_1 : decode cX6_keptBy 1 = .ok (.istore_n 2, 1) := by decide +kernel
theorem dX6_keptBy_2 : decode cX6_keptBy 2 = .ok (.iconst 0, 1) := by decide +kernel
theorem dX6_keptBy_3 : decode cX6_keptBy 3 = .ok (.istore_n 3, 1) := by decide +kernel
theorem dX6_keptBy_4 : decode cX6_keptBy 4 = .ok (.iload_n 3, 1) := by decide +kernel
theorem dX6_keptBy_5 : decode cX6_keptBy 5 = .ok (.bipush 8, 2) := by decide +kernel
theorem dX6_keptBy_7 : decode cX6_keptBy 7 = .ok (.if_icmp .ge 29, 3) := by decide +kernel
theorem dX6_keptBy_10 : decode cX6_keptBy 10 = .ok (.iload_n 2, 1) := by decide +kernel
theorem dX6_keptBy_11 : decode cX6_keptBy 11 = .ok (.aload_n 0, 1) := by decide +kernel
theorem dX6_keptBy_12 : decode cX6_keptBy 12 = .ok (.iload_n 1, 1) := by decide +kernel
theorem dX6_keptBy_13 : decode cX6_keptBy 13 = .ok (.iload_n 3, 1) := by decide +kernel
theorem dX6_keptBy_14 : decode cX6_keptBy 14 = .ok (.invokevirtual 67, 3) := by decide +kernel
theorem dX6_keptBy_17 : decode cX6_keptBy 17 = .ok (.iload_n 3, 1) := by decide +kernel
theorem dX6_keptBy_18 : decode cX6_keptBy 18 = .ok (.if_icmp .ne 9, 3) := by decide +kernel
theorem dX6_keptBy_21 : decode cX6_keptBy 21 = .ok (.iconst 1, 1) := by decide +kernel
theorem dX6_keptBy_22 : decode cX6_keptBy 22 = .ok (.iload_n 3, 1) := by decide +kernel
theorem dX6_keptBy_23 : decode cX6_keptBy 23 = .ok (.ishl, 1) := by decide +kernel
theorem dX6_keptBy_24 : decode cX6_keptBy 24 = .ok (.goto 4, 3) := by decide +kernel
theorem dX6_keptBy_27 : decode cX6_keptBy 27 = .ok (.iconst 0, 1) := by decide +kernel
theorem dX6_keptBy_28 : decode cX6_keptBy 28 = .ok (.ior, 1) := by decide +kernel
theorem dX6_keptBy_29 : decode cX6_keptBy 29 = .ok (.istore_n 2, 1) := by decide +kernel
theorem dX6_keptBy_30 : decode cX6_keptBy 30 = .ok (.iinc 3 1, 3) := by decide +kernel
theorem dX6_keptBy_33 : decode cX6_keptBy 33 = .ok (.goto (-29), 3) := by decide +kernel
theorem dX6_keptBy_36 : decode cX6_keptBy 36 = .ok (.iload_n 2, 1) := by decide +kernel
theorem dX6_keptBy_37 : decode cX6_keptBy 37 = .ok (.ireturn, 1) := by decide +kernel
theorem dX6_areAlike_0 : decode cX6_areAlike 0 = .ok (.iconst 1, 1) := by decide +kernel
theorem dX6_areAlike_1 : decode cX6_areAlike 1 = .ok (.istore_n 3, 1) := by decide +kernel
theorem dX6_areAlike_2 : decode cX6_areAlike 2 = .ok (.iconst 0, 1) := by decide +kernel
theorem dX6_areAlike_3 : decode cX6_areAlike 3 = .ok (.istore 4, 2) := by decide +kernel
theorem dX6_areAlike_5 : decode cX6_areAlike 5 = .ok (.iload 4, 2) := by decide +kernel
theorem dX6_areAlike_7 : decode cX6_areAlike 7 = .ok (.bipush 8, 2) := by decide +kernel
theorem dX6_areAlike_9 : decode cX6_areAlike 9 = .ok (.if_icmp .ge 36, 3) := by decide +kernel
theorem dX6_areAlike_12 : decode cX6_areAlike 12 = .ok (.iload_n 3, 1) := by decide +kernel
theorem dX6_areAlike_13 : decode cX6_areAlike 13 = .ok (.ifCond .eq 24, 3) := by decide +kernel
theorem dX6_areAlike_16 : decode cX6_areAlike 16 = .ok (.aload_n 0, 1) := by decide +kernel
theorem dX6_areAlike_17 : decode cX6_areAlike 17 = .ok (.iload_n 1, 1) := by decide +kernel
theorem dX6_areAlike_18 : decode cX6_areAlike 18 = .ok (.iload 4, 2) := by decide +kernel
theorem dX6_areAlike_20 : decode cX6_areAlike 20 = .ok (.invokevirtual 67, 3) := by decide +kernel
theorem dX6_areAlike_23 : decode cX6_areAlike 23 = .ok (.aload_n 0, 1) := by decide +kernel
theorem dX6_areAlike_24 : decode cX6_areAlike 24 = .ok (.iload_n 2, 1) := by decide +kernel
theorem dX6_areAlike_25 : decode cX6_areAlike 25 = .ok (.iload 4, 2) := by decide +kernel
theorem dX6_areAlike_27 : decode cX6_areAlike 27 = .ok (.invokevirtual 67, 3) := by decide +kernel
theorem dX6_areAlike_30 : decode cX6_areAlike 30 = .ok (.if_icmp .ne 7, 3) := by decide +kernel
theorem dX6_areAlike_33 : decode cX6_areAlike 33 = .ok (.iconst 1, 1) := by decide +kernel
theorem dX6_areAlike_34 : decode cX6_areAlike 34 = .ok (.goto 4, 3) := by decide +kernel
theorem dX6_areAlike_37 : decode cX6_areAlike 37 = .ok (.iconst 0, 1) := by decide +kernel
theorem dX6_areAlike_38 : decode cX6_areAlike 38 = .ok (.istore_n 3, 1) := by decide +kernel
theorem dX6_areAlike_39 : decode cX6_areAlike 39 = .ok (.iinc 4 1, 3) := by decide +kernel
theorem dX6_areAlike_42 : decode cX6_areAlike 42 = .ok (.goto (-37), 3) := by decide +kernel
theorem dX6_areAlike_45 : decode cX6_areAlike 45 = .ok (.iload_n 3, 1) := by decide +kernel
theorem dX6_areAlike_46 : decode cX6_areAlike 46 = .ok (.ireturn, 1) := by decide +kernel
theorem dX6_sameAs_0 : decode cX6_sameAs 0 = .ok (.iconst 0, 1) := by decide +kernel
theorem dX6_sameAs_1 : decode cX6_sameAs 1 = .ok (.istore_n 2, 1) := by decide +kernel
theorem dX6_sameAs_2 : decode cX6_sameAs 2 = .ok (.aload_n 0, 1) := by decide +kernel
theorem dX6_sameAs_3 : decode cX6_sameAs 3 = .ok (.iload_n 1, 1) := by decide +kernel
theorem dX6_sameAs_4 : decode cX6_sameAs 4 = .ok (.iload_n 2, 1) := by decide +kernel
theorem dX6_sameAs_5 : decode cX6_sameAs 5 = .ok (.invokevirtual 70, 3) := by decide +kernel
theorem dX6_sameAs_8 : decode cX6_sameAs 8 = .ok (.ifCond .ne 9, 3) := by decide +kernel
theorem dX6_sameAs_11 : decode cX6_sameAs 11 = .ok (.iinc 2 1, 3) := by decide +kernel
theorem dX6_sameAs_14 : decode cX6_sameAs 14 = .ok (.goto (-12), 3) := by decide +kernel
theorem dX6_sameAs_17 : decode cX6_sameAs 17 = .ok (.iload_n 2, 1) := by decide +kernel
theorem dX6_sameAs_18 : decode cX6_sameAs 18 = .ok (.ireturn, 1) := by decide +kernel
theorem dX6_taken_0 : decode cX6_taken 0 = .ok (.iconst 0, 1) := by decide +kernel
theorem dX6_taken_1 : decode cX6_taken 1 = .ok (.istore_n 1, 1) := by decide +kernel
theorem dX6_taken_2 : decode cX6_taken 2 = .ok (.iconst 0, 1) := by decide +kernel
theorem dX6_taken_3 : decode cX6_taken 3 = .ok (.istore_n 2, 1) := by decide +kernel
theorem dX6_taken_4 : decode cX6_taken 4 = .ok (.iload_n 2, 1) := by decide +kernel
theorem dX6_taken_5 : decode cX6_taken 5 = .ok (.aload_n 0, 1) := by decide +kernel
theorem dX6_taken_6 : decode cX6_taken 6 = .ok (.getfield 7, 3) := by decide +kernel
theorem dX6_taken_9 : decode cX6_taken 9 = .ok (.iconst 0, 1) := by decide +kernel
theorem dX6_taken_10 : decode cX6_taken 10 = .ok (.iaload, 1) := by decide +kernel
theorem dX6_taken_11 : decode cX6_taken 11 = .ok (.if_icmp .ge 39, 3) := by decide +kernel
theorem dX6_taken_14 : decode cX6_taken 14 = .ok (.iload_n 1, 1) := by decide +kernel
theorem dX6_taken_15 : decode cX6_taken 15 = .ok (.aload_n 0, 1) := by decide +kernel
theorem dX6_taken_16 : decode cX6_taken 16 = .ok (.getfield 7, 3) := by decide +kernel
theorem dX6_taken_19 : decode cX6_taken 19 = .ok (.iconst 5, 1) := by decide +kernel
theorem dX6_taken_20 : decode cX6_taken 20 = .ok (.iload_n 2, 1) := by decide +kernel
theorem dX6_taken_21 : decode cX6_taken 21 = .ok (.iadd, 1) := by decide +kernel
theorem dX6_taken_22 : decode cX6_taken 22 = .ok (.iaload, 1) := by decide +kernel
theorem dX6_taken_23 : decode cX6_taken 23 = .ok (.bipush (-4), 2) := by decide +kernel
theorem dX6_taken_25 : decode cX6_taken 25 = .ok (.if_icmp .ne 7, 3) := by decide +kernel
theorem dX6_taken_28 : decode cX6_taken 28 = .ok (.iconst 0, 1) := by decide +kernel
theorem dX6_taken_29 : decode cX6_taken 29 = .ok (.goto 13, 3) := by decide +kernel
theorem dX6_taken_32 : decode cX6_taken 32 = .ok (.iconst 1, 1) := by decide +kernel
theorem dX6_taken_33 : decode cX6_taken 33 = .ok (.aload_n 0, 1) := by decide +kernel
theorem dX6_taken_34 : decode cX6_taken 34 = .ok (.getfield 7, 3) := by decide +kernel
theorem dX6_taken_37 : decode cX6_taken 37 = .ok (.iconst 5, 1) := by decide +kernel
theorem dX6_taken_38 : decode cX6_taken 38 = .ok (.iload_n 2, 1) := by decide +kernel
theorem dX6_taken_39 : decode cX6_taken 39 = .ok (.iadd, 1) := by decide +kernel
theorem dX6_taken_40 : decode cX6_taken 40 = .ok (.iaload, 1) := by decide +kernel
theorem dX6_taken_41 : decode cX6_taken 41 = .ok (.ishl, 1) := by decide +kernel
theorem dX6_taken_42 : decode cX6_taken 42 = .ok (.ior, 1) := by decide +kernel
theorem dX6_taken_43 : decode cX6_taken 43 = .ok (.istore_n 1, 1) := by decide +kernel
theorem dX6_taken_44 : decode cX6_taken 44 = .ok (.iinc 2 1, 3) := by decide +kernel
theorem dX6_taken_47 : decode cX6_taken 47 = .ok (.goto (-43), 3) := by decide +kernel
theorem dX6_taken_50 : decode cX6_taken 50 = .ok (.iload_n 1, 1) := by decide +kernel
theorem dX6_taken_51 : decode cX6_taken 51 = .ok (.ireturn, 1) := by decide +kernel
theorem dX6_angel_0 : decode cX6_angel 0 = .ok (.iload_n 1, 1) := by decide +kernel
theorem dX6_angel_1 : decode cX6_angel 1 = .ok (.invokestatic 74, 3) := by decide +kernel
theorem dX6_angel_4 : decode cX6_angel 4 = .ok (.ifCond .ne 5, 3) := by decide +kernel
theorem dX6_angel_7 : decode cX6_angel 7 = .ok (.iconst (-1), 1) := by decide +kernel
theorem dX6_angel_8 : decode cX6_angel 8 = .ok (.ireturn, 1) := by decide +kernel
theorem dX6_angel_9 : decode cX6_angel 9 = .ok (.aload_n 0, 1) := by decide +kernel
theorem dX6_angel_10 : decode cX6_angel 10 = .ok (.getfield 7, 3) := by decide +kernel
theorem dX6_angel_13 : decode cX6_angel 13 = .ok (.iconst 0, 1) := by decide +kernel
theorem dX6_angel_14 : decode cX6_angel 14 = .ok (.iaload, 1) := by decide +kernel
theorem dX6_angel_15 : decode cX6_angel 15 = .ok (.bipush 8, 2) := by decide +kernel
theorem dX6_angel_17 : decode cX6_angel 17 = .ok (.if_icmp .ne 6, 3) := by decide +kernel
theorem dX6_angel_20 : decode cX6_angel 20 = .ok (.bipush (-3), 2) := by decide +kernel
theorem dX6_angel_22 : decode cX6_angel 22 = .ok (.ireturn, 1) := by decide +kernel
theorem dX6_angel_23 : decode cX6_angel 23 = .ok (.aload_n 0, 1) := by decide +kernel
theorem dX6_angel_24 : decode cX6_angel 24 = .ok (.invokevirtual 78, 3) := by decide +kernel
theorem dX6_angel_27 : decode cX6_angel 27 = .ok (.iload_n 1, 1) := by decide +kernel
theorem dX6_angel_28 : decode cX6_angel 28 = .ok (.invokestatic 82, 3) := by decide +kernel
theorem dX6_angel_31 : decode cX6_angel 31 = .ok (.ifCond .eq 6, 3) := by decide +kernel
theorem dX6_angel_34 : decode cX6_angel 34 = .ok (.bipush (-2), 2) := by decide +kernel
theorem dX6_angel_36 : decode cX6_angel 36 = .ok (.ireturn, 1) := by decide +kernel
theorem dX6_angel_37 : decode cX6_angel 37 = .ok (.aload_n 0, 1) := by decide +kernel
theorem dX6_angel_38 : decode cX6_angel 38 = .ok (.getfield 7, 3) := by decide +kernel
theorem dX6_angel_41 : decode cX6_angel 41 = .ok (.iconst 5, 1) := by decide +kernel
theorem dX6_angel_42 : decode cX6_angel 42 = .ok (.aload_n 0, 1) := by decide +kernel
theorem dX6_angel_43 : decode cX6_angel 43 = .ok (.getfield 7, 3) := by decide +kernel
theorem dX6_angel_46 : decode cX6_angel 46 = .ok (.iconst 0, 1) := by decide +kernel
theorem dX6_angel_47 : decode cX6_angel 47 = .ok (.iaload, 1) := by decide +kernel
theorem dX6_angel_48 : decode cX6_angel 48 = .ok (.iadd, 1) := by decide +kernel
theorem dX6_angel_49 : decode cX6_angel 49 = .ok (.iload_n 1, 1) := by decide +kernel
theorem dX6_angel_50 : decode cX6_angel 50 = .ok (.iastore, 1) := by decide +kernel
theorem dX6_angel_51 : decode cX6_angel 51 = .ok (.aload_n 0, 1) := by decide +kernel
theorem dX6_angel_52 : decode cX6_angel 52 = .ok (.getfield 7, 3) := by decide +kernel
theorem dX6_angel_55 : decode cX6_angel 55 = .ok (.iconst 0, 1) := by decide +kernel
theorem dX6_angel_56 : decode cX6_angel 56 = .ok (.dup2, 1) := by decide +kernel
theorem dX6_angel_57 : decode cX6_angel 57 = .ok (.iaload, 1) := by decide +kernel
theorem dX6_angel_58 : decode cX6_angel 58 = .ok (.iconst 1, 1) := by decide +kernel
theorem dX6_angel_59 : decode cX6_angel 59 = .ok (.iadd, 1) := by decide +kernel
theorem dX6_angel_60 : decode cX6_angel 60 = .ok (.iastore, 1) := by decide +kernel
theorem dX6_angel_61 : decode cX6_angel 61 = .ok (.aload_n 0, 1) := by decide +kernel
theorem dX6_angel_62 : decode cX6_angel 62 = .ok (.getfield 7, 3) := by decide +kernel
theorem dX6_angel_65 : decode cX6_angel 65 = .ok (.bipush 39, 2) := by decide +kernel
theorem dX6_angel_67 : decode cX6_angel 67 = .ok (.iconst 0, 1) := by decide +kernel
theorem dX6_angel_68 : decode cX6_angel 68 = .ok (.iastore, 1) := by decide +kernel
theorem dX6_angel_69 : decode cX6_angel 69 = .ok (.aload_n 0, 1) := by decide +kernel
theorem dX6_angel_70 : decode cX6_angel 70 = .ok (.getfield 7, 3) := by decide +kernel
theorem dX6_angel_73 : decode cX6_angel 73 = .ok (.iconst 0, 1) := by decide +kernel
theorem dX6_angel_74 : decode cX6_angel 74 = .ok (.iaload, 1) := by decide +kernel
theorem dX6_angel_75 : decode cX6_angel 75 = .ok (.iconst 1, 1) := by decide +kernel
theorem dX6_angel_76 : decode cX6_angel 76 = .ok (.isub, 1) := by decide +kernel
theorem dX6_angel_77 : decode cX6_angel 77 = .ok (.ireturn, 1) := by decide +kernel
theorem dX6_figure_0 : decode cX6_figure 0 = .ok (.iload_n 1, 1) := by decide +kernel
theorem dX6_figure_1 : decode cX6_figure 1 = .ok (.i2l, 1) := by decide +kernel
theorem dX6_figure_2 : decode cX6_figure 2 = .ok (.lconst 0, 1) := by decide +kernel
theorem dX6_figure_3 : decode cX6_figure 3 = .ok (.ldc2_w 85, 3) := by decide +kernel
theorem dX6_figure_6 : decode cX6_figure 6 = .ok (.invokestatic 52, 3) := by decide +kernel
theorem dX6_figure_9 : decode cX6_figure 9 = .ok (.ifCond .eq 15, 3) := by decide +kernel
theorem dX6_figure_12 : decode cX6_figure 12 = .ok (.iload_n 2, 1) := by decide +kernel
theorem dX6_figure_13 : decode cX6_figure 13 = .ok (.i2l, 1) := by decide +kernel
theorem dX6_figure_14 : decode cX6_figure 14 = .ok (.lconst 0, 1) := by decide +kernel
theorem dX6_figure_15 : decode cX6_figure 15 = .ok (.ldc2_w 50, 3) := by decide +kernel
theorem dX6_figure_18 : decode cX6_figure 18 = .ok (.invokestatic 52, 3) := by decide +kernel
theorem dX6_figure_21 : decode cX6_figure 21 = .ok (.ifCond .ne 5, 3) := by decide +kernel
theorem dX6_figure_24 : decode cX6_figure 24 = .ok (.iconst (-1), 1) := by decide +kernel
theorem dX6_figure_25 : decode cX6_figure 25 = .ok (.ireturn, 1) := by decide +kernel
theorem dX6_figure_26 : decode cX6_figure 26 = .ok (.aload_n 0, 1) := by decide +kernel
theorem dX6_figure_27 : decode cX6_figure 27 = .ok (.getfield 7, 3) := by decide +kernel
theorem dX6_figure_30 : decode cX6_figure 30 = .ok (.iconst 1, 1) := by decide +kernel
theorem dX6_figure_31 : decode cX6_figure 31 = .ok (.iaload, 1) := by decide +kernel
theorem dX6_figure_32 : decode cX6_figure 32 = .ok (.iconst 5, 1) := by decide +kernel
theorem dX6_figure_33 : decode cX6_figure 33 = .ok (.if_icmp .ne 6, 3) := by decide +kernel
theorem dX6_figure_36 : decode cX6_figure 36 = .ok (.bipush (-3), 2) := by decide +kernel
theorem dX6_figure_38 : decode cX6_figure 38 = .ok (.ireturn, 1) := by decide +kernel
theorem dX6_figure_39 : decode cX6_figure 39 = .ok (.aload_n 0, 1) := by decide +kernel
theorem dX6_figure_40 : decode cX6_figure 40 = .ok (.getfield 7, 3) := by decide +kernel
theorem dX6_figure_43 : decode cX6_figure 43 = .ok (.bipush 13, 2) := by decide +kernel
theorem dX6_figure_45 : decode cX6_figure 45 = .ok (.aload_n 0, 1) := by decide +kernel
theorem dX6_figure_46 : decode cX6_figure 46 = .ok (.getfield 7, 3) := by decide +kernel
theorem dX6_figure_49 : decode cX6_figure 49 = .ok (.iconst 1, 1) := by decide +kernel
theorem dX6_figure_50 : decode cX6_figure 50 = .ok (.iaload, 1) := by decide +kernel
theorem dX6_figure_51 : decode cX6_figure 51 = .ok (.iadd, 1) := by decide +kernel
theorem dX6_figure_52 : decode cX6_figure 52 = .ok (.iload_n 1, 1) := by decide +kernel
theorem dX6_figure_53 : decode cX6_figure 53 = .ok (.iastore, 1) := by decide +kernel
theorem dX6_figure_54 : decode cX6_figure 54 = .ok (.aload_n 0, 1) := by decide +kernel
theorem dX6_figure_55 : decode cX6_figure 55 = .ok (.getfield 7, 3) := by decide +kernel
theorem dX6_figure_58 : decode cX6_figure 58 = .ok (.bipush 18, 2) := by decide +kernel
theorem dX6_figure_60 : decode cX6_figure 60 = .ok (.aload_n 0, 1) := by decide +kernel
theorem dX6_figure_61 : decode cX6_figure 61 = .ok (.getfield 7, 3) := by decide +kernel
theorem dX6_figure_64 : decode cX6_figure 64 = .ok (.iconst 1, 1) := by decide +kernel
theorem dX6_figure_65 : decode cX6_figure 65 = .ok (.iaload, 1) := by decide +kernel
theorem dX6_figure_66 : decode cX6_figure 66 = .ok (.iadd, 1) := by decide +kernel
theorem dX6_figure_67 : decode cX6_figure 67 = .ok (.iload_n 2, 1) := by decide +kernel
theorem dX6_figure_68 : decode cX6_figure 68 = .ok (.iastore, 1) := by decide +kernel
theorem dX6_figure_69 : decode cX6_figure 69 = .ok (.aload_n 0, 1) := by decide +kernel
theorem dX6_figure_70 : decode cX6_figure 70 = .ok (.getfield 7, 3) := by decide +kernel
theorem dX6_figure_73 : decode cX6_figure 73 = .ok (.iconst 1, 1) := by decide +kernel
theorem dX6_figure_74 : decode cX6_figure 74 = .ok (.dup2, 1) := by decide +kernel
theorem dX6_figure_75 : decode cX6_figure 75 = .ok (.iaload, 1) := by decide +kernel
theorem dX6_figure_76 : decode cX6_figure 76 = .ok (.iconst 1, 1) := by decide +kernel
theorem dX6_figure_77 : decode cX6_figure 77 = .ok (.iadd, 1) := by decide +kernel
theorem dX6_figure_78 : decode cX6_figure 78 = .ok (.iastore, 1) := by decide +kernel
theorem dX6_figure_79 : decode cX6_figure 79 = .ok (.aload_n 0, 1) := by decide +kernel
theorem dX6_figure_80 : decode cX6_figure 80 = .ok (.getfield 7, 3) := by decide +kernel
theorem dX6_figure_83 : decode cX6_figure 83 = .ok (.bipush 39, 2) := by decide +kernel
theorem dX6_figure_85 : decode cX6_figure 85 = .ok (.iconst 0, 1) := by decide +kernel
theorem dX6_figure_86 : decode cX6_figure 86 = .ok (.iastore, 1) := by decide +kernel
theorem dX6_figure_87 : decode cX6_figure 87 = .ok (.aload_n 0, 1) := by decide +kernel
theorem dX6_figure_88 : decode cX6_figure 88 = .ok (.getfield 7, 3) := by decide +kernel
theorem dX6_figure_91 : decode cX6_figure 91 = .ok (.iconst 1, 1) := by decide +kernel
theorem dX6_figure_92 : decode cX6_figure 92 = .ok (.iaload, 1) := by decide +kernel
theorem dX6_figure_93 : decode cX6_figure 93 = .ok (.iconst 1, 1) := by decide +kernel
theorem dX6_figure_94 : decode cX6_figure 94 = .ok (.isub, 1) := by decide +kernel
theorem dX6_figure_95 : decode cX6_figure 95 = .ok (.ireturn, 1) := by decide +kernel
theorem dX6_tune_0 : decode cX6_tune 0 = .ok (.aload_n 0, 1) := by decide +kernel
theorem dX6_tune_1 : decode cX6_tune 1 = .ok (.iload_n 1, 1) := by decide +kernel
theorem dX6_tune_2 : decode cX6_tune 2 = .ok (.invokevirtual 87, 3) := by decide +kernel
theorem dX6_tune_5 : decode cX6_tune 5 = .ok (.ifCond .ne 5, 3) := by decide +kernel
theorem dX6_tune_8 : decode cX6_tune 8 = .ok (.iconst (-1), 1) := by decide +kernel
theorem dX6_tune_9 : decode cX6_tune 9 = .ok (.ireturn, 1) := by decide +kernel
theorem dX6_tune_10 : decode cX6_tune 10 = .ok (.aload_n 0, 1) := by decide +kernel
theorem dX6_tune_11 : decode cX6_tune 11 = .ok (.getfield 7, 3) := by decide +kernel
theorem dX6_tune_14 : decode cX6_tune 14 = .ok (.iconst 2, 1) := by decide +kernel
theorem dX6_tune_15 : decode cX6_tune 15 = .ok (.iaload, 1) := by decide +kernel
theorem dX6_tune_16 : decode cX6_tune 16 = .ok (.bipush 16, 2) := by decide +kernel
theorem dX6_tune_18 : decode cX6_tune 18 = .ok (.if_icmp .ne 6, 3) := by decide +kernel
theorem dX6_tune_21 : decode cX6_tune 21 = .ok (.bipush (-3), 2) := by decide +kernel
theorem dX6_tune_23 : decode cX6_tune 23 = .ok (.ireturn, 1) := by decide +kernel
theorem dX6_tune_24 : decode cX6_tune 24 = .ok (.aload_n 0, 1) := by decide +kernel
theorem dX6_tune_25 : decode cX6_tune 25 = .ok (.getfield 7, 3) := by decide +kernel
theorem dX6_tune_28 : decode cX6_tune 28 = .ok (.bipush 23, 2) := by decide +kernel
theorem dX6_tune_30 : decode cX6_tune 30 = .ok (.aload_n 0, 1) := by decide +kernel
theorem dX6_tune_31 : decode cX6_tune 31 = .ok (.getfield 7, 3) := by decide +kernel
theorem dX6_tune_34 : decode cX6_tune 34 = .ok (.iconst 2, 1) := by decide +kernel
theorem dX6_tune_35 : decode cX6_tune 35 = .ok (.iaload, 1) := by decide +kernel
theorem dX6_tune_36 : decode cX6_tune 36 = .ok (.iadd, 1) := by decide +kernel
theorem dX6_tune_37 : decode cX6_tune 37 = .ok (.iload_n 1, 1) := by decide +kernel
theorem dX6_tune_38 : decode cX6_tune 38 = .ok (.iastore, 1) := by decide +kernel
theorem dX6_tune_39 : decode cX6_tune 39 = .ok (.aload_n 0, 1) := by decide +kernel
theorem dX6_tune_40 : decode cX6_tune 40 = .ok (.getfield 7, 3) := by decide +kernel
theorem dX6_tune_43 : decode cX6_tune 43 = .ok (.iconst 2, 1) := by decide +kernel
theorem dX6_tune_44 : decode cX6_tune 44 = .ok (.dup2, 1) := by decide +kernel
theorem dX6_tune_45 : decode cX6_tune 45 = .ok (.iaload, 1) := by decide +kernel
theorem dX6_tune_46 : decode cX6_tune 46 = .ok (.iconst 1, 1) := by decide +kernel
theorem dX6_tune_47 : decode cX6_tune 47 = .ok (.iadd, 1) := by decide +kernel
theorem dX6_tune_48 : decode cX6_tune 48 = .ok (.iastore, 1) := by decide +kernel
theorem dX6_tune_49 : decode cX6_tune 49 = .ok (.aload_n 0, 1) := by decide +kernel
theorem dX6_tune_50 : decode cX6_tune 50 = .ok (.getfield 7, 3) := by decide +kernel
theorem dX6_tune_53 : decode cX6_tune 53 = .ok (.bipush 39, 2) := by decide +kernel
theorem dX6_tune_55 : decode cX6_tune 55 = .ok (.iconst 0, 1) := by decide +kernel
theorem dX6_tune_56 : decode cX6_tune 56 = .ok (.iastore, 1) := by decide +kernel
theorem dX6_tune_57 : decode cX6_tune 57 = .ok (.aload_n 0, 1) := by decide +kernel
theorem dX6_tune_58 : decode cX6_tune 58 = .ok (.getfield 7, 3) := by decide +kernel
theorem dX6_tune_61 : decode cX6_tune 61 = .ok (.iconst 2, 1) := by decide +kernel
theorem dX6_tune_62 : decode cX6_tune 62 = .ok (.iaload, 1) := by decide +kernel
theorem dX6_tune_63 : decode cX6_tune 63 = .ok (.ireturn, 1) := by decide +kernel
theorem dX6_hush_0 : decode cX6_hush 0 = .ok (.aload_n 0, 1) := by decide +kernel
theorem dX6_hush_1 : decode cX6_hush 1 = .ok (.getfield 7, 3) := by decide +kernel
theorem dX6_hush_4 : decode cX6_hush 4 = .ok (.iconst 2, 1) := by decide +kernel
theorem dX6_hush_5 : decode cX6_hush 5 = .ok (.iaload, 1) := by decide +kernel
theorem dX6_hush_6 : decode cX6_hush 6 = .ok (.istore_n 1, 1) := by decide +kernel
theorem dX6_hush_7 : decode cX6_hush 7 = .ok (.aload_n 0, 1) := by decide +kernel
theorem dX6_hush_8 : decode cX6_hush 8 = .ok (.getfield 7, 3) := by decide +kernel
theorem dX6_hush_11 : decode cX6_hush 11 = .ok (.iconst 2, 1) := by decide +kernel
theorem dX6_hush_12 : decode cX6_hush 12 = .ok (.iconst 0, 1) := by decide +kernel
theorem dX6_hush_13 : decode cX6_hush 13 = .ok (.iastore, 1) := by decide +kernel
theorem dX6_hush_14 : decode cX6_hush 14 = .ok (.aload_n 0, 1) := by decide +kernel
theorem dX6_hush_15 : decode cX6_hush 15 = .ok (.getfield 7, 3) := by decide +kernel
theorem dX6_hush_18 : decode cX6_hush 18 = .ok (.bipush 39, 2) := by decide +kernel
theorem dX6_hush_20 : decode cX6_hush 20 = .ok (.iconst 0, 1) := by decide +kernel
theorem dX6_hush_21 : decode cX6_hush 21 = .ok (.iastore, 1) := by decide +kernel
theorem dX6_hush_22 : decode cX6_hush 22 = .ok (.iload_n 1, 1) := by decide +kernel
theorem dX6_hush_23 : decode cX6_hush 23 = .ok (.ireturn, 1) := by decide +kernel
theorem dX6_of_0 : decode cX6_of 0 = .ok (.aload_n 0, 1) := by decide +kernel
theorem dX6_of_1 : decode cX6_of 1 = .ok (.iload_n 1, 1) := by decide +kernel
theorem dX6_of_2 : decode cX6_of 2 = .ok (.invokevirtual 87, 3) := by decide +kernel
theorem dX6_of_5 : decode cX6_of 5 = .ok (.ifCond .ne 5, 3) := by decide +kernel
theorem dX6_of_8 : decode cX6_of 8 = .ok (.iconst (-1), 1) := by decide +kernel
theorem dX6_of_9 : decode cX6_of 9 = .ok (.ireturn, 1) := by decide +kernel
theorem dX6_of_10 : decode cX6_of 10 = .ok (.iload_n 2, 1) := by decide +kernel
theorem dX6_of_11 : decode cX6_of 11 = .ok (.tableswitch 71 0 4 #[33, 43, 53, 59, 65], 33) := by decide +kernel
theorem dX6_of_44 : decode cX6_of 44 = .ok (.aload_n 0, 1) := by decide +kernel
theorem dX6_of_45 : decode cX6_of 45 = .ok (.getfield 7, 3) := by decide +kernel
theorem dX6_of_48 : decode cX6_of 48 = .ok (.bipush 13, 2) := by decide +kernel
theorem dX6_of_50 : decode cX6_of 50 = .ok (.iload_n 1, 1) := by decide +kernel
theorem dX6_of_51 : decode cX6_of 51 = .ok (.iadd, 1) := by decide +kernel
theorem dX6_of_52 : decode cX6_of 52 = .ok (.iaload, 1) := by decide +kernel
theorem dX6_of_53 : decode cX6_of 53 = .ok (.ireturn, 1) := by decide +kernel
theorem dX6_of_54 : decode cX6_of 54 = .ok (.aload_n 0, 1) := by decide +kernel
theorem dX6_of_55 : decode cX6_of 55 = .ok (.getfield 7, 3) := by decide +kernel
theorem dX6_of_58 : decode cX6_of 58 = .ok (.bipush 18, 2) := by decide +kernel
theorem dX6_of_60 : decode cX6_of 60 = .ok (.iload_n 1, 1) := by decide +kernel
theorem dX6_of_61 : decode cX6_of 61 = .ok (.iadd, 1) := by decide +kernel
theorem dX6_of_62 : decode cX6_of 62 = .ok (.iaload, 1) := by decide +kernel
theorem dX6_of_63 : decode cX6_of 63 = .ok (.ireturn, 1) := by decide +kernel
theorem dX6_of_64 : decode cX6_of 64 = .ok (.aload_n 0, 1) := by decide +kernel
theorem dX6_of_65 : decode cX6_of 65 = .ok (.iload_n 1, 1) := by decide +kernel
theorem dX6_of_66 : decode cX6_of 66 = .ok (.invokevirtual 90, 3) := by decide +kernel
theorem dX6_of_69 : decode cX6_of 69 = .ok (.ireturn, 1) := by decide +kernel
theorem dX6_of_70 : decode cX6_of 70 = .ok (.aload_n 0, 1) := by decide +kernel
theorem dX6_of_71 : decode cX6_of 71 = .ok (.iload_n 1, 1) := by decide +kernel
theorem dX6_of_72 : decode cX6_of 72 = .ok (.invokevirtual 94, 3) := by decide +kernel
theorem dX6_of_75 : decode cX6_of 75 = .ok (.ireturn, 1) := by decide +kernel
theorem dX6_of_76 : decode cX6_of 76 = .ok (.aload_n 0, 1) := by decide +kernel
theorem dX6_of_77 : decode cX6_of 77 = .ok (.iload_n 1, 1) := by decide +kernel
theorem dX6_of_78 : decode cX6_of 78 = .ok (.invokevirtual 97, 3) := by decide +kernel
theorem dX6_of_81 : decode cX6_of 81 = .ok (.ireturn, 1) := by decide +kernel
theorem dX6_of_82 : decode cX6_of 82 = .ok (.iconst (-1), 1) := by decide +kernel
theorem dX6_of_83 : decode cX6_of 83 = .ok (.ireturn, 1) := by decide +kernel
theorem dX6_leads_0 : decode cX6_leads 0 = .ok (.aload_n 0, 1) := by decide +kernel
theorem dX6_leads_1 : decode cX6_leads 1 = .ok (.iload_n 1, 1) := by decide +kernel
theorem dX6_leads_2 : decode cX6_leads 2 = .ok (.invokevirtual 87, 3) := by decide +kernel
theorem dX6_leads_5 : decode cX6_leads 5 = .ok (.ifCond .eq 19, 3) := by decide +kernel
theorem dX6_leads_8 : decode cX6_leads 8 = .ok (.iload_n 2, 1) := by decide +kernel
theorem dX6_leads_9 : decode cX6_leads 9 = .ok (.invokestatic 74, 3) := by decide +kernel
theorem dX6_leads_12 : decode cX6_leads 12 = .ok (.ifCond .eq 12, 3) := by decide +kernel
theorem dX6_leads_15 : decode cX6_leads 15 = .ok (.aload_n 0, 1) := by decide +kernel
theorem dX6_leads_16 : decode cX6_leads 16 = .ok (.iload_n 1, 1) := by decide +kernel
theorem dX6_leads_17 : decode cX6_leads 17 = .ok (.iload_n 2, 1) := by decide +kernel
theorem dX6_leads_18 : decode cX6_leads 18 = .ok (.invokevirtual 67, 3) := by decide +kernel
theorem dX6_leads_21 : decode cX6_leads 21 = .ok (.goto 4, 3) := by decide +kernel
theorem dX6_leads_24 : decode cX6_leads 24 = .ok (.iconst (-1), 1) := by decide +kernel
theorem dX6_leads_25 : decode cX6_leads 25 = .ok (.ireturn, 1) := by decide +kernel
theorem dX6_at_0 : decode cX6_at 0 = .ok (.aload_n 0, 1) := by decide +kernel
theorem dX6_at_1 : decode cX6_at 1 = .ok (.iload_n 1, 1) := by decide +kernel
theorem dX6_at_2 : decode cX6_at 2 = .ok (.invokevirtual 100, 3) := by decide +kernel
theorem dX6_at_5 : decode cX6_at 5 = .ok (.ifCond .eq 14, 3) := by decide +kernel
theorem dX6_at_8 : decode cX6_at 8 = .ok (.aload_n 0, 1) := by decide +kernel
theorem dX6_at_9 : decode cX6_at 9 = .ok (.getfield 7, 3) := by decide +kernel
theorem dX6_at_12 : decode cX6_at 12 = .ok (.iconst 5, 1) := by decide +kernel
theorem dX6_at_13 : decode cX6_at 13 = .ok (.iload_n 1, 1) := by decide +kernel
theorem dX6_at_14 : decode cX6_at 14 = .ok (.iadd, 1) := by decide +kernel
theorem dX6_at_15 : decode cX6_at 15 = .ok (.iaload, 1) := by decide +kernel
theorem dX6_at_16 : decode cX6_at 16 = .ok (.goto 4, 3) := by decide +kernel
theorem dX6_at_19 : decode cX6_at 19 = .ok (.iconst (-1), 1) := by decide +kernel
theorem dX6_at_20 : decode cX6_at 20 = .ok (.ireturn, 1) := by decide +kernel
theorem dX6_seenOf_0 : decode cX6_seenOf 0 = .ok (.iconst 0, 1) := by decide +kernel
theorem dX6_seenOf_1 : decode cX6_seenOf 1 = .ok (.istore_n 2, 1) := by decide +kernel
theorem dX6_seenOf_2 : decode cX6_seenOf 2 = .ok (.bipush (-3), 2) := by decide +kernel
theorem dX6_seenOf_4 : decode cX6_seenOf 4 = .ok (.istore_n 3, 1) := by decide +kernel
theorem dX6_seenOf_5 : decode cX6_seenOf 5 = .ok (.iload_n 3, 1) := by decide +kernel
theorem dX6_seenOf_6 : decode cX6_seenOf 6 = .ok (.iconst 3, 1) := by decide +kernel
theorem dX6_seenOf_7 : decode cX6_seenOf 7 = .ok (.if_icmp .gt 86, 3) := by decide +kernel
theorem dX6_seenOf_10 : decode cX6_seenOf 10 = .ok (.iload_n 1, 1) := by decide +kernel
theorem dX6_seenOf_11 : decode cX6_seenOf 11 = .ok (.iload_n 3, 1) := by decide +kernel
theorem dX6_seenOf_12 : decode cX6_seenOf 12 = .ok (.iadd, 1) := by decide +kernel
theorem dX6_seenOf_13 : decode cX6_seenOf 13 = .ok (.bipush 8, 2) := by decide +kernel
theorem dX6_seenOf_15 : decode cX6_seenOf 15 = .ok (.iadd, 1) := by decide +kernel
theorem dX6_seenOf_16 : decode cX6_seenOf 16 = .ok (.bipush 8, 2) := by decide +kernel
theorem dX6_seenOf_18 : decode cX6_seenOf 18 = .ok (.irem, 1) := by decide +kernel
theorem dX6_seenOf_19 : decode cX6_seenOf 19 = .ok (.istore 4, 2) := by decide +kernel
theorem dX6_seenOf_21 : decode cX6_seenOf 21 = .ok (.iload 4, 2) := by decide +kernel
theorem dX6_seenOf_23 : decode cX6_seenOf 23 = .ok (.iload_n 3, 1) := by decide +kernel
theorem dX6_seenOf_24 : decode cX6_seenOf 24 = .ok (.ifCond .le 8, 3) := by decide +kernel
theorem dX6_seenOf_27 : decode cX6_seenOf 27 = .ok (.bipush 7, 2) := by decide +kernel
theorem dX6_seenOf_29 : decode cX6_seenOf 29 = .ok (.goto 4, 3) := by decide +kernel
theorem dX6_seenOf_32 : decode cX6_seenOf 32 = .ok (.iconst 1, 1) := by decide +kernel
theorem dX6_seenOf_33 : decode cX6_seenOf 33 = .ok (.iadd, 1) := by decide +kernel
theorem dX6_seenOf_34 : decode cX6_seenOf 34 = .ok (.bipush 8, 2) := by decide +kernel
theorem dX6_seenOf_36 : decode cX6_seenOf 36 = .ok (.irem, 1) := by decide +kernel
theorem dX6_seenOf_37 : decode cX6_seenOf 37 = .ok (.istore 5, 2) := by decide +kernel
theorem dX6_seenOf_39 : decode cX6_seenOf 39 = .ok (.iload_n 3, 1) := by decide +kernel
theorem dX6_seenOf_40 : decode cX6_seenOf 40 = .ok (.iconst 1, 1) := by decide +kernel
theorem dX6_seenOf_41 : decode cX6_seenOf 41 = .ok (.if_icmp .gt 8, 3) := by decide +kernel
theorem dX6_seenOf_44 : decode cX6_seenOf 44 = .ok (.iload_n 3, 1) := by decide +kernel
theorem dX6_seenOf_45 : decode cX6_seenOf 45 = .ok (.iconst (-1), 1) := by decide +kernel
theorem dX6_seenOf_46 : decode cX6_seenOf 46 = .ok (.if_icmp .ge 16, 3) := by decide +kernel
theorem dX6_seenOf_49 : decode cX6_seenOf 49 = .ok (.iload_n 0, 1) := by decide +kernel
theorem dX6_seenOf_50 : decode cX6_seenOf 50 = .ok (.iload 5, 2) := by decide +kernel
theorem dX6_seenOf_52 : decode cX6_seenOf 52 = .ok (.invokestatic 82, 3) := by decide +kernel
theorem dX6_seenOf_55 : decode cX6_seenOf 55 = .ok (.ifCond .eq 7, 3) := by decide +kernel
theorem dX6_seenOf_58 : decode cX6_seenOf 58 = .ok (.iconst 1, 1) := by decide +kernel
theorem dX6_seenOf_59 : decode cX6_seenOf 59 = .ok (.goto 4, 3) := by decide +kernel
theorem dX6_seenOf_62 : decode cX6_seenOf 62 = .ok (.iconst 0, 1) := by decide +kernel
theorem dX6_seenOf_63 : decode cX6_seenOf 63 = .ok (.istore 6, 2) := by decide +kernel
theorem dX6_seenOf_65 : decode cX6_seenOf 65 = .ok (.iload_n 2, 1) := by decide +kernel
theorem dX6_seenOf_66 : decode cX6_seenOf 66 = .ok (.iload_n 0, 1) := by decide +kernel
theorem dX6_seenOf_67 : decode cX6_seenOf 67 = .ok (.iload 4, 2) := by decide +kernel
theorem dX6_seenOf_69 : decode cX6_seenOf 69 = .ok (.invokestatic 82, 3) := by decide +kernel
theorem dX6_seenOf_72 : decode cX6_seenOf 72 = .ok (.ifCond .eq 12, 3) := by decide +kernel
theorem dX6_seenOf_75 : decode cX6_seenOf 75 = .ok (.iload 6, 2) := by decide +kernel
theorem dX6_seenOf_77 : decode cX6_seenOf 77 = .ok (.ifCond .ne 7, 3) := by decide +kernel
theorem dX6_seenOf_80 : decode cX6_seenOf 80 = .ok (.iconst 1, 1) := by decide +kernel
theorem dX6_seenOf_81 : decode cX6_seenOf 81 = .ok (.goto 4, 3) := by decide +kernel
theorem dX6_seenOf_84 : decode cX6_seenOf 84 = .ok (.iconst 0, 1) := by decide +kernel
theorem dX6_seenOf_85 : decode cX6_seenOf 85 = .ok (.iadd, 1) := by decide +kernel
theorem dX6_seenOf_86 : decode cX6_seenOf 86 = .ok (.istore_n 2, 1) := by decide +kernel
theorem dX6_seenOf_87 : decode cX6_seenOf 87 = .ok (.iinc 3 1, 3) := by decide +kernel
theorem dX6_seenOf_90 : decode cX6_seenOf 90 = .ok (.goto (-85), 3) := by decide +kernel
theorem dX6_seenOf_93 : decode cX6_seenOf 93 = .ok (.iload_n 2, 1) := by decide +kernel
theorem dX6_seenOf_94 : decode cX6_seenOf 94 = .ok (.ireturn, 1) := by decide +kernel
theorem dX6_seen_0 : decode cX6_seen 0 = .ok (.iload_n 1, 1) := by decide +kernel
theorem dX6_seen_1 : decode cX6_seen 1 = .ok (.invokestatic 74, 3) := by decide +kernel
theorem dX6_seen_4 : decode cX6_seen 4 = .ok (.ifCond .eq 14, 3) := by decide +kernel
theorem dX6_seen_7 : decode cX6_seen 7 = .ok (.aload_n 0, 1) := by decide +kernel
theorem dX6_seen_8 : decode cX6_seen 8 = .ok (.invokevirtual 78, 3) := by decide +kernel
theorem dX6_seen_11 : decode cX6_seen 11 = .ok (.iload_n 1, 1) := by decide +kernel
theorem dX6_seen_12 : decode cX6_seen 12 = .ok (.invokestatic 103, 3) := by decide +kernel
theorem dX6_seen_15 : decode cX6_seen 15 = .ok (.goto 4, 3) := by decide +kernel
theorem dX6_seen_18 : decode cX6_seen 18 = .ok (.iconst (-1), 1) := by decide +kernel
theorem dX6_seen_19 : decode cX6_seen 19 = .ok (.ireturn, 1) := by decide +kernel
theorem dX6_type_0 : decode cX6_type 0 = .ok (.iload_n 1, 1) := by decide +kernel
theorem dX6_type_1 : decode cX6_type 1 = .ok (.i2l, 1) := by decide +kernel
theorem dX6_type_2 : decode cX6_type 2 = .ok (.ldc2_w 106, 3) := by decide +kernel
theorem dX6_type_5 : decode cX6_type 5 = .ok (.ldc2_w 108, 3) := by decide +kernel
theorem dX6_type_8 : decode cX6_type 8 = .ok (.invokestatic 52, 3) := by decide +kernel
theorem dX6_type_11 : decode cX6_type 11 = .ok (.ifCond .ne 5, 3) := by decide +kernel
theorem dX6_type_14 : decode cX6_type 14 = .ok (.iconst (-1), 1) := by decide +kernel
theorem dX6_type_15 : decode cX6_type 15 = .ok (.ireturn, 1) := by decide +kernel
theorem dX6_type_16 : decode cX6_type 16 = .ok (.aload_n 0, 1) := by decide +kernel
theorem dX6_type_17 : decode cX6_type 17 = .ok (.getfield 110, 3) := by decide +kernel
theorem dX6_type_20 : decode cX6_type 20 = .ok (.bipush 60, 2) := by decide +kernel
theorem dX6_type_22 : decode cX6_type 22 = .ok (.if_icmp .ne 6, 3) := by decide +kernel
theorem dX6_type_25 : decode cX6_type 25 = .ok (.bipush (-3), 2) := by decide +kernel
theorem dX6_type_27 : decode cX6_type 27 = .ok (.ireturn, 1) := by decide +kernel
theorem dX6_type_28 : decode cX6_type 28 = .ok (.aload_n 0, 1) := by decide +kernel
theorem dX6_type_29 : decode cX6_type 29 = .ok (.getfield 13, 3) := by decide +kernel
theorem dX6_type_32 : decode cX6_type 32 = .ok (.aload_n 0, 1) := by decide +kernel
theorem dX6_type_33 : decode cX6_type 33 = .ok (.getfield 110, 3) := by decide +kernel
theorem dX6_type_36 : decode cX6_type 36 = .ok (.iload_n 1, 1) := by decide +kernel
theorem dX6_type_37 : decode cX6_type 37 = .ok (.iastore, 1) := by decide +kernel
theorem dX6_type_38 : decode cX6_type 38 = .ok (.aload_n 0, 1) := by decide +kernel
theorem dX6_type_39 : decode cX6_type 39 = .ok (.dup, 1) := by decide +kernel
theorem dX6_type_40 : decode cX6_type 40 = .ok (.getfield 110, 3) := by decide +kernel
theorem dX6_type_43 : decode cX6_type 43 = .ok (.iconst 1, 1) := by decide +kernel
theorem dX6_type_44 : decode cX6_type 44 = .ok (.iadd, 1) := by decide +kernel
theorem dX6_type_45 : decode cX6_type 45 = .ok (.putfield 110, 3) := by decide +kernel
theorem dX6_type_48 : decode cX6_type 48 = .ok (.aload_n 0, 1) := by decide +kernel
theorem dX6_type_49 : decode cX6_type 49 = .ok (.getfield 110, 3) := by decide +kernel
theorem dX6_type_52 : decode cX6_type 52 = .ok (.ireturn, 1) := by decide +kernel
theorem dX6_peek_0 : decode cX6_peek 0 = .ok (.aload_n 0, 1) := by decide +kernel
theorem dX6_peek_1 : decode cX6_peek 1 = .ok (.getfield 114, 3) := by decide +kernel
theorem dX6_peek_4 : decode cX6_peek 4 = .ok (.aload_n 0, 1) := by decide +kernel
theorem dX6_peek_5 : decode cX6_peek 5 = .ok (.getfield 110, 3) := by decide +kernel
theorem dX6_peek_8 : decode cX6_peek 8 = .ok (.if_icmp .ge 30, 3) := by decide +kernel
theorem dX6_peek_11 : decode cX6_peek 11 = .ok (.aload_n 0, 1) := by decide +kernel
theorem dX6_peek_12 : decode cX6_peek 12 = .ok (.getfield 13, 3) := by decide +kernel
theorem dX6_peek_15 : decode cX6_peek 15 = .ok (.aload_n 0, 1) := by decide +kernel
theorem dX6_peek_16 : decode cX6_peek 16 = .ok (.getfield 114, 3) := by decide +kernel
theorem dX6_peek_19 : decode cX6_peek 19 = .ok (.iaload, 1) := by decide +kernel
theorem dX6_peek_20 : decode cX6_peek 20 = .ok (.bipush 32, 2) := by decide +kernel
theorem dX6_peek_22 : decode cX6_peek 22 = .ok (.if_icmp .ne 16, 3) := by decide +kernel
theorem dX6_peek_25 : decode cX6_peek 25 = .ok (.aload_n 0, 1) := by decide +kernel
theorem dX6_peek_26 : decode cX6_peek 26 = .ok (.dup, 1) := by decide +kernel
theorem dX6_peek_27 : decode cX6_peek 27 = .ok (.getfield 114, 3) := by decide +kernel
theorem dX6_peek_30 : decode cX6_peek 30 = .ok (.iconst 1, 1) := by decide +kernel
theorem dX6_peek_31 : decode cX6_peek 31 = .ok (.iadd, 1) := by decide +kernel
theorem dX6_peek_32 : decode cX6_peek 32 = .ok (.putfield 114, 3) := by decide +kernel
theorem dX6_peek_35 : decode cX6_peek 35 = .ok (.goto (-35), 3) := by decide +kernel
theorem dX6_peek_38 : decode cX6_peek 38 = .ok (.aload_n 0, 1) := by decide +kernel
theorem dX6_peek_39 : decode cX6_peek 39 = .ok (.getfield 114, 3) := by decide +kernel
theorem dX6_peek_42 : decode cX6_peek 42 = .ok (.aload_n 0, 1) := by decide +kernel
theorem dX6_peek_43 : decode cX6_peek 43 = .ok (.getfield 110, 3) := by decide +kernel
theorem dX6_peek_46 : decode cX6_peek 46 = .ok (.if_icmp .ge 15, 3) := by decide +kernel
theorem dX6_peek_49 : decode cX6_peek 49 = .ok (.aload_n 0, 1) := by decide +kernel
theorem dX6_peek_50 : decode cX6_peek 50 = .ok (.getfield 13, 3) := by decide +kernel
theorem dX6_peek_53 : decode cX6_peek 53 = .ok (.aload_n 0, 1) := by decide +kernel
theorem dX6_peek_54 : decode cX6_peek 54 = .ok (.getfield 114, 3) := by decide +kernel
theorem dX6_peek_57 : decode cX6_peek 57 = .ok (.iaload, 1) := by decide +kernel
theorem dX6_peek_58 : decode cX6_peek 58 = .ok (.goto 4, 3) := by decide +kernel
theorem dX6_peek_61 : decode cX6_peek 61 = .ok (.iconst 0, 1) := by decide +kernel
theorem dX6_peek_62 : decode cX6_peek 62 = .ok (.ireturn, 1) := by decide +kernel
theorem dX6_takes_0 : decode cX6_takes 0 = .ok (.aload_n 0, 1) := by decide +kernel
theorem dX6_takes_1 : decode cX6_takes 1 = .ok (.invokevirtual 117, 3) := by decide +kernel
theorem dX6_takes_4 : decode cX6_takes 4 = .ok (.iload_n 1, 1) := by decide +kernel
theorem dX6_takes_5 : decode cX6_takes 5 = .ok (.if_icmp .eq 5, 3) := by decide +kernel
theorem dX6_takes_8 : decode cX6_takes 8 = .ok (.iconst 0, 1) := by decide +kernel
theorem dX6_takes_9 : decode cX6_takes 9 = .ok (.ireturn, 1) := by decide +kernel
theorem dX6_takes_10 : decode cX6_takes 10 = .ok (.aload_n 0, 1) := by decide +kernel
theorem dX6_takes_11 : decode cX6_takes 11 = .ok (.dup, 1) := by decide +kernel
theorem dX6_takes_12 : decode cX6_takes 12 = .ok (.getfield 114, 3) := by decide +kernel
theorem dX6_takes_15 : decode cX6_takes 15 = .ok (.iconst 1, 1) := by decide +kernel
theorem dX6_takes_16 : decode cX6_takes 16 = .ok (.iadd, 1) := by decide +kernel
theorem dX6_takes_17 : decode cX6_takes 17 = .ok (.putfield 114, 3) := by decide +kernel
theorem dX6_takes_20 : decode cX6_takes 20 = .ok (.iconst 1, 1) := by decide +kernel
theorem dX6_takes_21 : decode cX6_takes 21 = .ok (.ireturn, 1) := by decide +kernel
theorem dX6_kindOf_0 : decode cX6_kindOf 0 = .ok (.iload_n 0, 1) := by decide +kernel
theorem dX6_kindOf_1 : decode cX6_kindOf 1 = .ok (.bipush 114, 2) := by decide +kernel
theorem dX6_kindOf_3 : decode cX6_kindOf 3 = .ok (.if_icmp .ne 7, 3) := by decide +kernel
theorem dX6_kindOf_6 : decode cX6_kindOf 6 = .ok (.iconst 0, 1) := by decide +kernel
theorem dX6_kindOf_7 : decode cX6_kindOf 7 = .ok (.goto 44, 3) := by decide +kernel
theorem dX6_kindOf_10 : decode cX6_kindOf 10 = .ok (.iload_n 0, 1) := by decide +kernel
theorem dX6_kindOf_11 : decode cX6_kindOf 11 = .ok (.bipush 101, 2) := by decide +kernel
theorem dX6_kindOf_13 : decode cX6_kindOf 13 = .ok (.if_icmp .ne 7, 3) := by decide +kernel
theorem dX6_kindOf_16 : decode cX6_kindOf 16 = .ok (.iconst 1, 1) := by decide +kernel
theorem dX6_kindOf_17 : decode cX6_kindOf 17 = .ok (.goto 34, 3) := by decide +kernel
theorem dX6_kindOf_20 : decode cX6_kindOf 20 = .ok (.iload_n 0, 1) := by decide +kernel
theorem dX6_kindOf_21 : decode cX6_kindOf 21 = .ok (.bipush 109, 2) := by decide +kernel
theorem dX6_kindOf_23 : decode cX6_kindOf 23 = .ok (.if_icmp .ne 7, 3) := by decide +kernel
theorem dX6_kindOf_26 : decode cX6_kindOf 26 = .ok (.iconst 2, 1) := by decide +kernel
theorem dX6_kindOf_27 : decode cX6_kindOf 27 = .ok (.goto 24, 3) := by decide +kernel
theorem dX6_kindOf_30 : decode cX6_kindOf 30 = .ok (.iload_n 0, 1) := by decide +kernel
theorem dX6_kindOf_31 : decode cX6_kindOf 31 = .ok (.bipush 104, 2) := by decide +kernel
theorem dX6_kindOf_33 : decode cX6_kindOf 33 = .ok (.if_icmp .ne 7, 3) := by decide +kernel
theorem dX6_kindOf_36 : decode cX6_kindOf 36 = .ok (.iconst 3, 1) := by decide +kernel
theorem dX6_kindOf_37 : decode cX6_kindOf 37 = .ok (.goto 14, 3) := by decide +kernel
theorem dX6_kindOf_40 : decode cX6_kindOf 40 = .ok (.iload_n 0, 1) := by decide +kernel
theorem dX6_kindOf_41 : decode cX6_kindOf 41 = .ok (.bipush 99, 2) := by decide +kernel
theorem dX6_kindOf_43 : decode cX6_kindOf 43 = .ok (.if_icmp .ne 7, 3) := by decide +kernel
theorem dX6_kindOf_46 : decode cX6_kindOf 46 = .ok (.iconst 4, 1) := by decide +kernel
theorem dX6_kindOf_47 : decode cX6_kindOf 47 = .ok (.goto 4, 3) := by decide +kernel
theorem dX6_kindOf_50 : decode cX6_kindOf 50 = .ok (.iconst (-1), 1) := by decide +kernel
theorem dX6_kindOf_51 : decode cX6_kindOf 51 = .ok (.ireturn, 1) := by decide +kernel
theorem dX6_takesPlaces_0 : decode cX6_takesPlaces 0 = .ok (.iconst 0, 1) := by decide +kernel
theorem dX6_takesPlaces_1 : decode cX6_takesPlaces 1 = .ok (.istore_n 1, 1) := by decide +kernel
theorem dX6_takesPlaces_2 : decode cX6_takesPlaces 2 = .ok (.iload_n 1, 1) := by decide +kernel
theorem dX6_takesPlaces_3 : decode cX6_takesPlaces 3 = .ok (.bipush 8, 2) := by decide +kernel
theorem dX6_takesPlaces_5 : decode cX6_takesPlaces 5 = .ok (.if_icmp .ge 74, 3) := by decide +kernel
theorem dX6_takesPlaces_8 : decode cX6_takesPlaces 8 = .ok (.aload_n 0, 1) := by decide +kernel
theorem dX6_takesPlaces_9 : decode cX6_takesPlaces 9 = .ok (.invokevirtual 117, 3) := by decide +kernel
theorem dX6_takesPlaces_12 : decode cX6_takesPlaces 12 = .ok (.istore_n 2, 1) := by decide +kernel
theorem dX6_takesPlaces_13 : decode cX6_takesPlaces 13 = .ok (.iload_n 2, 1) := by decide +kernel
theorem dX6_takesPlaces_14 : decode cX6_takesPlaces 14 = .ok (.bipush 46, 2) := by decide +kernel
theorem dX6_takesPlaces_16 : decode cX6_takesPlaces 16 = .ok (.if_icmp .eq 11, 3) := by decide +kernel
theorem dX6_takesPlaces_19 : decode cX6_takesPlaces 19 = .ok (.iload_n 2, 1) := by decide +kernel
theorem dX6_takesPlaces_20 : decode cX6_takesPlaces 20 = .ok (.bipush 42, 2) := by decide +kernel
theorem dX6_takesPlaces_22 : decode cX6_takesPlaces 22 = .ok (.if_icmp .eq 5, 3) := by decide +kernel
theorem dX6_takesPlaces_25 : decode cX6_takesPlaces 25 = .ok (.iconst 0, 1) := by decide +kernel
theorem dX6_takesPlaces_26 : decode cX6_takesPlaces 26 = .ok (.ireturn, 1) := by decide +kernel
theorem dX6_takesPlaces_27 : decode cX6_takesPlaces 27 = .ok (.aload_n 0, 1) := by decide +kernel
theorem dX6_takesPlaces_28 : decode cX6_takesPlaces 28 = .ok (.dup, 1) := by decide +kernel
theorem dX6_takesPlaces_29 : decode cX6_takesPlaces 29 = .ok (.getfield 114, 3) := by decide +kernel
theorem dX6_takesPlaces_32 : decode cX6_takesPlaces 32 = .ok (.iconst 1, 1) := by decide +kernel
theorem dX6_takesPlaces_33 : decode cX6_takesPlaces 33 = .ok (.iadd, 1) := by decide +kernel
theorem dX6_takesPlaces_34 : decode cX6_takesPlaces 34 = .ok (.putfield 114, 3) := by decide +kernel
theorem dX6_takesPlaces_37 : decode cX6_takesPlaces 37 = .ok (.iload_n 2, 1) := by decide +kernel
theorem dX6_takesPlaces_38 : decode cX6_takesPlaces 38 = .ok (.bipush 42, 2) := by decide +kernel
theorem dX6_takesPlaces_40 : decode cX6_takesPlaces 40 = .ok (.if_icmp .ne 33, 3) := by decide +kernel
theorem dX6_takesPlaces_43 : decode cX6_takesPlaces 43 = .ok (.aload_n 0, 1) := by decide +kernel
theorem dX6_takesPlaces_44 : decode cX6_takesPlaces 44 = .ok (.getfield 7, 3) := by decide +kernel
theorem dX6_takesPlaces_47 : decode cX6_takesPlaces 47 = .ok (.sipush 245, 3) := by decide +kernel
theorem dX6_takesPlaces_50 : decode cX6_takesPlaces 50 = .ok (.aload_n 0, 1) := by decide +kernel
theorem dX6_takesPlaces_51 : decode cX6_takesPlaces 51 = .ok (.getfield 7, 3) := by decide +kernel
theorem dX6_takesPlaces_54 : decode cX6_takesPlaces 54 = .ok (.sipush 240, 3) := by decide +kernel
theorem dX6_takesPlaces_57 : decode cX6_takesPlaces 57 = .ok (.iaload, 1) := by decide +kernel
theorem dX6_takesPlaces_58 : decode cX6_takesPlaces 58 = .ok (.iadd, 1) := by decide +kernel
theorem dX6_takesPlaces_59 : decode cX6_takesPlaces 59 = .ok (.iload_n 1, 1) := by decide +kernel
theorem dX6_takesPlaces_60 : decode cX6_takesPlaces 60 = .ok (.iastore, 1) := by decide +kernel
theorem dX6_takesPlaces_61 : decode cX6_takesPlaces 61 = .ok (.aload_n 0, 1) := by decide +kernel
theorem dX6_takesPlaces_62 : decode cX6_takesPlaces 62 = .ok (.getfield 7, 3) := by decide +kernel
theorem dX6_takesPlaces_65 : decode cX6_takesPlaces 65 = .ok (.sipush 240, 3) := by decide +kernel
theorem dX6_takesPlaces_68 : decode cX6_takesPlaces 68 = .ok (.dup2, 1) := by decide +kernel
theorem dX6_takesPlaces_69 : decode cX6_takesPlaces 69 = .ok (.iaload, 1) := by decide +kernel
theorem dX6_takesPlaces_70 : decode cX6_takesPlaces 70 = .ok (.iconst 1, 1) := by decide +kernel
theorem dX6_takesPlaces_71 : decode cX6_takesPlaces 71 = .ok (.iadd, 1) := by decide +kernel
theorem dX6_takesPlaces_72 : decode cX6_takesPlaces 72 = .ok (.iastore, 1) := by decide +kernel
theorem dX6_takesPlaces_73 : decode cX6_takesPlaces 73 = .ok (.iinc 1 1, 3) := by decide +kernel
theorem dX6_takesPlaces_76 : decode cX6_takesPlaces 76 = .ok (.goto (-74), 3) := by decide +kernel
theorem dX6_takesPlaces_79 : decode cX6_takesPlaces 79 = .ok (.iconst 1, 1) := by decide +kernel
theorem dX6_takesPlaces_80 : decode cX6_takesPlaces 80 = .ok (.ireturn, 1) := by decide +kernel
theorem dX6_takesFigure_0 : decode cX6_takesFigure 0 = .ok (.aload_n 0, 1) := by decide +kernel
theorem dX6_takesFigure_1 : decode cX6_takesFigure 1 = .ok (.invokevirtual 117, 3) := by decide +kernel
theorem dX6_takesFigure_4 : decode cX6_takesFigure 4 = .ok (.invokestatic 120, 3) := by decide +kernel
theorem dX6_takesFigure_7 : decode cX6_takesFigure 7 = .ok (.istore_n 1, 1) := by decide +kernel
theorem dX6_takesFigure_8 : decode cX6_takesFigure 8 = .ok (.iload_n 1, 1) := by decide +kernel
theorem dX6_takesFigure_9 : decode cX6_takesFigure 9 = .ok (.ifCond .ge 5, 3) := by decide +kernel
theorem dX6_takesFigure_12 : decode cX6_takesFigure 12 = .ok (.iconst 0, 1) := by decide +kernel
theorem dX6_takesFigure_13 : decode cX6_takesFigure 13 = .ok (.ireturn, 1) := by decide +kernel
theorem dX6_takesFigure_14 : decode cX6_takesFigure 14 = .ok (.aload_n 0, 1) := by decide +kernel
theorem dX6_takesFigure_15 : decode cX6_takesFigure 15 = .ok (.dup, 1) := by decide +kernel
theorem dX6_takesFigure_16 : decode cX6_takesFigure 16 = .ok (.getfield 114, 3) := by decide +kernel
theorem dX6_takesFigure_19 : decode cX6_takesFigure 19 = .ok (.iconst 1, 1) := by decide +kernel
theorem dX6_takesFigure_20 : decode cX6_takesFigure 20 = .ok (.iadd, 1) := by decide +kernel
theorem dX6_takesFigure_21 : decode cX6_takesFigure 21 = .ok (.putfield 114, 3) := by decide +kernel
theorem dX6_takesFigure_24 : decode cX6_takesFigure 24 = .ok (.aload_n 0, 1) := by decide +kernel
theorem dX6_takesFigure_25 : decode cX6_takesFigure 25 = .ok (.invokevirtual 117, 3) := by decide +kernel
theorem dX6_takesFigure_28 : decode cX6_takesFigure 28 = .ok (.bipush 48, 2) := by decide +kernel
theorem dX6_takesFigure_30 : decode cX6_takesFigure 30 = .ok (.isub, 1) := by decide +kernel
theorem dX6_takesFigure_31 : decode cX6_takesFigure 31 = .ok (.istore_n 2, 1) := by decide +kernel
theorem dX6_takesFigure_32 : decode cX6_takesFigure 32 = .ok (.iload_n 2, 1) := by decide +kernel
theorem dX6_takesFigure_33 : decode cX6_takesFigure 33 = .ok (.i2l, 1) := by decide +kernel
theorem dX6_takesFigure_34 : decode cX6_takesFigure 34 = .ok (.lconst 0, 1) := by decide +kernel
theorem dX6_takesFigure_35 : decode cX6_takesFigure 35 = .ok (.ldc2_w 50, 3) := by decide +kernel
theorem dX6_takesFigure_38 : decode cX6_takesFigure 38 = .ok (.invokestatic 52, 3) := by decide +kernel
theorem dX6_takesFigure_41 : decode cX6_takesFigure 41 = .ok (.ifCond .ne 5, 3) := by decide +kernel
theorem dX6_takesFigure_44 : decode cX6_takesFigure 44 = .ok (.iconst 0, 1) := by decide +kernel
theorem dX6_takesFigure_45 : decode cX6_takesFigure 45 = .ok (.ireturn, 1) := by decide +kernel
theorem dX6_takesFigure_46 : decode cX6_takesFigure 46 = .ok (.aload_n 0, 1) := by decide +kernel
theorem dX6_takesFigure_47 : decode cX6_takesFigure 47 = .ok (.dup, 1) := by decide +kernel
theorem dX6_takesFigure_48 : decode cX6_takesFigure 48 = .ok (.getfield 114, 3) := by decide +kernel
theorem dX6_takesFigure_51 : decode cX6_takesFigure 51 = .ok (.iconst 1, 1) := by decide +kernel
theorem dX6_takesFigure_52 : decode cX6_takesFigure 52 = .ok (.iadd, 1) := by decide +kernel
theorem dX6_takesFigure_53 : decode cX6_takesFigure 53 = .ok (.putfield 114, 3) := by decide +kernel
theorem dX6_takesFigure_56 : decode cX6_takesFigure 56 = .ok (.aload_n 0, 1) := by decide +kernel
theorem dX6_takesFigure_57 : decode cX6_takesFigure 57 = .ok (.getfield 7, 3) := by decide +kernel
theorem dX6_takesFigure_60 : decode cX6_takesFigure 60 = .ok (.sipush 253, 3) := by decide +kernel
theorem dX6_takesFigure_63 : decode cX6_takesFigure 63 = .ok (.aload_n 0, 1) := by decide +kernel
theorem dX6_takesFigure_64 : decode cX6_takesFigure 64 = .ok (.getfield 7, 3) := by decide +kernel
theorem dX6_takesFigure_67 : decode cX6_takesFigure 67 = .ok (.sipush 241, 3) := by decide +kernel
theorem dX6_takesFigure_70 : decode cX6_takesFigure 70 = .ok (.iaload, 1) := by decide +kernel
theorem dX6_takesFigure_71 : decode cX6_takesFigure 71 = .ok (.iadd, 1) := by decide +kernel
theorem dX6_takesFigure_72 : decode cX6_takesFigure 72 = .ok (.iload_n 1, 1) := by decide +kernel
theorem dX6_takesFigure_73 : decode cX6_takesFigure 73 = .ok (.iastore, 1) := by decide +kernel
theorem dX6_takesFigure_74 : decode cX6_takesFigure 74 = .ok (.aload_n 0, 1) := by decide +kernel
theorem dX6_takesFigure_75 : decode cX6_takesFigure 75 = .ok (.getfield 7, 3) := by decide +kernel
theorem dX6_takesFigure_78 : decode cX6_takesFigure 78 = .ok (.sipush 258, 3) := by decide +kernel
theorem dX6_takesFigure_81 : decode cX6_takesFigure 81 = .ok (.aload_n 0, 1) := by decide +kernel
theorem dX6_takesFigure_82 : decode cX6_takesFigure 82 = .ok (.getfield 7, 3) := by decide +kernel
theorem dX6_takesFigure_85 : decode cX6_takesFigure 85 = .ok (.sipush 241, 3) := by decide +kernel
theorem dX6_takesFigure_88 : decode cX6_takesFigure 88 = .ok (.iaload, 1) := by decide +kernel
theorem dX6_takesFigure_89 : decode cX6_takesFigure 89 = .ok (.iadd, 1) := by decide +kernel
theorem dX6_takesFigure_90 : decode cX6_takesFigure 90 = .ok (.iload_n 2, 1) := by decide +kernel
theorem dX6_takesFigure_91 : decode cX6_takesFigure 91 = .ok (.iastore, 1) := by decide +kernel
theorem dX6_takesFigure_92 : decode cX6_takesFigure 92 = .ok (.aload_n 0, 1) := by decide +kernel
theorem dX6_takesFigure_93 : decode cX6_takesFigure 93 = .ok (.getfield 7, 3) := by decide +kernel
theorem dX6_takesFigure_96 : decode cX6_takesFigure 96 = .ok (.sipush 241, 3) := by decide +kernel
theorem dX6_takesFigure_99 : decode cX6_takesFigure 99 = .ok (.dup2, 1) := by decide +kernel
theorem dX6_takesFigure_100 : decode cX6_takesFigure 100 = .ok (.iaload, 1) := by decide +kernel
theorem dX6_takesFigure_101 : decode cX6_takesFigure 101 = .ok (.iconst 1, 1) := by decide +kernel
theorem dX6_takesFigure_102 : decode cX6_takesFigure 102 = .ok (.iadd, 1) := by decide +kernel
theorem dX6_takesFigure_103 : decode cX6_takesFigure 103 = .ok (.iastore, 1) := by decide +kernel
theorem dX6_takesFigure_104 : decode cX6_takesFigure 104 = .ok (.iconst 1, 1) := by decide +kernel
theorem dX6_takesFigure_105 : decode cX6_takesFigure 105 = .ok (.ireturn, 1) := by decide +kernel
theorem dX6_takesTune_0 : decode cX6_takesTune 0 = .ok (.aload_n 0, 1) := by decide +kernel
theorem dX6_takesTune_1 : decode cX6_takesTune 1 = .ok (.invokevirtual 117, 3) := by decide +kernel
theorem dX6_takesTune_4 : decode cX6_takesTune 4 = .ok (.bipush 48, 2) := by decide +kernel
theorem dX6_takesTune_6 : decode cX6_takesTune 6 = .ok (.isub, 1) := by decide +kernel
theorem dX6_takesTune_7 : decode cX6_takesTune 7 = .ok (.istore_n 1, 1) := by decide +kernel
theorem dX6_takesTune_8 : decode cX6_takesTune 8 = .ok (.iload_n 1, 1) := by decide +kernel
theorem dX6_takesTune_9 : decode cX6_takesTune 9 = .ok (.i2l, 1) := by decide +kernel
theorem dX6_takesTune_10 : decode cX6_takesTune 10 = .ok (.lconst 0, 1) := by decide +kernel
theorem dX6_takesTune_11 : decode cX6_takesTune 11 = .ok (.aload_n 0, 1) := by decide +kernel
theorem dX6_takesTune_12 : decode cX6_takesTune 12 = .ok (.getfield 7, 3) := by decide +kernel
theorem dX6_takesTune_15 : decode cX6_takesTune 15 = .ok (.sipush 241, 3) := by decide +kernel
theorem dX6_takesTune_18 : decode cX6_takesTune 18 = .ok (.iaload, 1) := by decide +kernel
theorem dX6_takesTune_19 : decode cX6_takesTune 19 = .ok (.iconst 1, 1) := by decide +kernel
theorem dX6_takesTune_20 : decode cX6_takesTune 20 = .ok (.isub, 1) := by decide +kernel
theorem dX6_takesTune_21 : decode cX6_takesTune 21 = .ok (.i2l, 1) := by decide +kernel
theorem dX6_takesTune_22 : decode cX6_takesTune 22 = .ok (.invokestatic 52, 3) := by decide +kernel
theorem dX6_takesTune_25 : decode cX6_takesTune 25 = .ok (.ifCond .ne 5, 3) := by decide +kernel
theorem dX6_takesTune_28 : decode cX6_takesTune 28 = .ok (.iconst 0, 1) := by decide +kernel
theorem dX6_takesTune_29 : decode cX6_takesTune 29 = .ok (.ireturn, 1) := by decide +kernel
theorem dX6_takesTune_30 : decode cX6_takesTune 30 = .ok (.aload_n 0, 1) := by decide +kernel
theorem dX6_takesTune_31 : decode cX6_takesTune 31 = .ok (.dup, 1) := by decide +kernel
theorem dX6_takesTune_32 : decode cX6_takesTune 32 = .ok (.getfield 114, 3) := by decide +kernel
theorem dX6_takesTune_35 : decode cX6_takesTune 35 = .ok (.iconst 1, 1) := by decide +kernel
theorem dX6_takesTune_36 : decode cX6_takesTune 36 = .ok (.iadd, 1) := by decide +kernel
theorem dX6_takesTune_37 : decode cX6_takesTune 37 = .ok (.putfield 114, 3) := by decide +kernel
theorem dX6_takesTune_40 : decode cX6_takesTune 40 = .ok (.aload_n 0, 1) := by decide +kernel
theorem dX6_takesTune_41 : decode cX6_takesTune 41 = .ok (.getfield 7, 3) := by decide +kernel
theorem dX6_takesTune_44 : decode cX6_takesTune 44 = .ok (.sipush 263, 3) := by decide +kernel
theorem dX6_takesTune_47 : decode cX6_takesTune 47 = .ok (.aload_n 0, 1) := by decide +kernel
theorem dX6_takesTune_48 : decode cX6_takesTune 48 = .ok (.getfield 7, 3) := by decide +kernel
theorem dX6_takesTune_51 : decode cX6_takesTune 51 = .ok (.sipush 242, 3) := by decide +kernel
theorem dX6_takesTune_54 : decode cX6_takesTune 54 = .ok (.iaload, 1) := by decide +kernel
theorem dX6_takesTune_55 : decode cX6_takesTune 55 = .ok (.iadd, 1) := by decide +kernel
theorem dX6_takesTune_56 : decode cX6_takesTune 56 = .ok (.iload_n 1, 1) := by decide +kernel
theorem dX6_takesTune_57 : decode cX6_takesTune 57 = .ok (.iastore, 1) := by decide +kernel
theorem dX6_takesTune_58 : decode cX6_takesTune 58 = .ok (.aload_n 0, 1) := by decide +kernel
theorem dX6_takesTune_59 : decode cX6_takesTune 59 = .ok (.getfield 7, 3) := by decide +kernel
theorem dX6_takesTune_62 : decode cX6_takesTune 62 = .ok (.sipush 242, 3) := by decide +kernel
theorem dX6_takesTune_65 : decode cX6_takesTune 65 = .ok (.dup2, 1) := by decide +kernel
theorem dX6_takesTune_66 : decode cX6_takesTune 66 = .ok (.iaload, 1) := by decide +kernel
theorem dX6_takesTune_67 : decode cX6_takesTune 67 = .ok (.iconst 1, 1) := by decide +kernel
theorem dX6_takesTune_68 : decode cX6_takesTune 68 = .ok (.iadd, 1) := by decide +kernel
theorem dX6_takesTune_69 : decode cX6_takesTune 69 = .ok (.iastore, 1) := by decide +kernel
theorem dX6_takesTune_70 : decode cX6_takesTune 70 = .ok (.iconst 1, 1) := by decide +kernel
theorem dX6_takesTune_71 : decode cX6_takesTune 71 = .ok (.ireturn, 1) := by decide +kernel
theorem dX6_takesRing_0 : decode cX6_takesRing 0 = .ok (.aload_n 0, 1) := by decide +kernel
theorem dX6_takesRing_1 : decode cX6_takesRing 1 = .ok (.invokevirtual 123, 3) := by decide +kernel
theorem dX6_takesRing_4 : decode cX6_takesRing 4 = .ok (.ifCond .ne 5, 3) := by decide +kernel
theorem dX6_takesRing_7 : decode cX6_takesRing 7 = .ok (.iconst 0, 1) := by decide +kernel
theorem dX6_takesRing_8 : decode cX6_takesRing 8 = .ok (.ireturn, 1) := by decide +kernel
theorem dX6_takesRing_9 : decode cX6_takesRing 9 = .ok (.aload_n 0, 1) := by decide +kernel
theorem dX6_takesRing_10 : decode cX6_takesRing 10 = .ok (.bipush 59, 2) := by decide +kernel
theorem dX6_takesRing_12 : decode cX6_takesRing 12 = .ok (.invokevirtual 127, 3) := by decide +kernel
theorem dX6_takesRing_15 : decode cX6_takesRing 15 = .ok (.ifCond .eq 71, 3) := by decide +kernel
theorem dX6_takesRing_18 : decode cX6_takesRing 18 = .ok (.aload_n 0, 1) := by decide +kernel
theorem dX6_takesRing_19 : decode cX6_takesRing 19 = .ok (.invokevirtual 130, 3) := by decide +kernel
theorem dX6_takesRing_22 : decode cX6_takesRing 22 = .ok (.ifCond .ne 5, 3) := by decide +kernel
theorem dX6_takesRing_25 : decode cX6_takesRing 25 = .ok (.iconst 0, 1) := by decide +kernel
theorem dX6_takesRing_26 : decode cX6_takesRing 26 = .ok (.ireturn, 1) := by decide +kernel
theorem dX6_takesRing_27 : decode cX6_takesRing 27 = .ok (.aload_n 0, 1) := by decide +kernel
theorem dX6_takesRing_28 : decode cX6_takesRing 28 = .ok (.getfield 7, 3) := by decide +kernel
theorem dX6_takesRing_31 : decode cX6_takesRing 31 = .ok (.sipush 241, 3) := by decide +kernel
theorem dX6_takesRing_34 : decode cX6_takesRing 34 = .ok (.iaload, 1) := by decide +kernel
theorem dX6_takesRing_35 : decode cX6_takesRing 35 = .ok (.iconst 5, 1) := by decide +kernel
theorem dX6_takesRing_36 : decode cX6_takesRing 36 = .ok (.if_icmp .ge 12, 3) := by decide +kernel
theorem dX6_takesRing_39 : decode cX6_takesRing 39 = .ok (.aload_n 0, 1) := by decide +kernel
theorem dX6_takesRing_40 : decode cX6_takesRing 40 = .ok (.bipush 44, 2) := by decide +kernel
theorem dX6_takesRing_42 : decode cX6_takesRing 42 = .ok (.invokevirtual 127, 3) := by decide +kernel
theorem dX6_takesRing_45 : decode cX6_takesRing 45 = .ok (.ifCond .ne (-27), 3) := by decide +kernel
theorem dX6_takesRing_48 : decode cX6_takesRing 48 = .ok (.aload_n 0, 1) := by decide +kernel
theorem dX6_takesRing_49 : decode cX6_takesRing 49 = .ok (.bipush 58, 2) := by decide +kernel
theorem dX6_takesRing_51 : decode cX6_takesRing 51 = .ok (.invokevirtual 127, 3) := by decide +kernel
theorem dX6_takesRing_54 : decode cX6_takesRing 54 = .ok (.ifCond .eq 32, 3) := by decide +kernel
theorem dX6_takesRing_57 : decode cX6_takesRing 57 = .ok (.aload_n 0, 1) := by decide +kernel
theorem dX6_takesRing_58 : decode cX6_takesRing 58 = .ok (.invokevirtual 133, 3) := by decide +kernel
theorem dX6_takesRing_61 : decode cX6_takesRing 61 = .ok (.ifCond .ne 5, 3) := by decide +kernel
theorem dX6_takesRing_64 : decode cX6_takesRing 64 = .ok (.iconst 0, 1) := by decide +kernel
theorem dX6_takesRing_65 : decode cX6_takesRing 65 = .ok (.ireturn, 1) := by decide +kernel
theorem dX6_takesRing_66 : decode cX6_takesRing 66 = .ok (.aload_n 0, 1) := by decide +kernel
theorem dX6_takesRing_67 : decode cX6_takesRing 67 = .ok (.getfield 7, 3) := by decide +kernel
theorem dX6_takesRing_70 : decode cX6_takesRing 70 = .ok (.sipush 242, 3) := by decide +kernel
theorem dX6_takesRing_73 : decode cX6_takesRing 73 = .ok (.iaload, 1) := by decide +kernel
theorem dX6_takesRing_74 : decode cX6_takesRing 74 = .ok (.bipush 16, 2) := by decide +kernel
theorem dX6_takesRing_76 : decode cX6_takesRing 76 = .ok (.if_icmp .ge 10, 3) := by decide +kernel
theorem dX6_takesRing_79 : decode cX6_takesRing 79 = .ok (.aload_n 0, 1) := by decide +kernel
theorem dX6_takesRing_80 : decode cX6_takesRing 80 = .ok (.invokevirtual 117, 3) := by decide +kernel
theorem dX6_takesRing_83 : decode cX6_takesRing 83 = .ok (.ifCond .ne (-26), 3) := by decide +kernel
theorem dX6_takesRing_86 : decode cX6_takesRing 86 = .ok (.aload_n 0, 1) := by decide +kernel
theorem dX6_takesRing_87 : decode cX6_takesRing 87 = .ok (.invokevirtual 117, 3) := by decide +kernel
theorem dX6_takesRing_90 : decode cX6_takesRing 90 = .ok (.ifCond .ne 7, 3) := by decide +kernel
theorem dX6_takesRing_93 : decode cX6_takesRing 93 = .ok (.iconst 1, 1) := by decide +kernel
theorem dX6_takesRing_94 : decode cX6_takesRing 94 = .ok (.goto 4, 3) := by decide +kernel
theorem dX6_takesRing_97 : decode cX6_takesRing 97 = .ok (.iconst 0, 1) := by decide +kernel
theorem dX6_takesRing_98 : decode cX6_takesRing 98 = .ok (.ireturn, 1) := by decide +kernel
theorem dX6_ring_0 : decode cX6_ring 0 = .ok (.iconst 0, 1) := by decide +kernel
theorem dX6_ring_1 : decode cX6_ring 1 = .ok (.istore_n 1, 1) := by decide +kernel
theorem dX6_ring_2 : decode cX6_ring 2 = .ok (.iload_n 1, 1) := by decide +kernel
theorem dX6_ring_3 : decode cX6_ring 3 = .ok (.bipush 39, 2) := by decide +kernel
theorem dX6_ring_5 : decode cX6_ring 5 = .ok (.if_icmp .ge 20, 3) := by decide +kernel
theorem dX6_ring_8 : decode cX6_ring 8 = .ok (.aload_n 0, 1) := by decide +kernel
theorem dX6_ring_9 : decode cX6_ring 9 = .ok (.getfield 7, 3) := by decide +kernel
theorem dX6_ring_12 : decode cX6_ring 12 = .ok (.sipush 240, 3) := by decide +kernel
theorem dX6_ring_15 : decode cX6_ring 15 = .ok (.iload_n 1, 1) := by decide +kernel
theorem dX6_ring_16 : decode cX6_ring 16 = .ok (.iadd, 1) := by decide +kernel
theorem dX6_ring_17 : decode cX6_ring 17 = .ok (.iconst 0, 1) := by decide +kernel
theorem dX6_ring_18 : decode cX6_ring 18 = .ok (.iastore, 1) := by decide +kernel
theorem dX6_ring_19 : decode cX6_ring 19 = .ok (.iinc 1 1, 3) := by decide +kernel
theorem dX6_ring_22 : decode cX6_ring 22 = .ok (.goto (-20), 3) := by decide +kernel
theorem dX6_ring_25 : decode cX6_ring 25 = .ok (.iconst 0, 1) := by decide +kernel
theorem dX6_ring_26 : decode cX6_ring 26 = .ok (.istore_n 1, 1) := by decide +kernel
theorem dX6_ring_27 : decode cX6_ring 27 = .ok (.iload_n 1, 1) := by decide +kernel
theorem dX6_ring_28 : decode cX6_ring 28 = .ok (.bipush 8, 2) := by decide +kernel
theorem dX6_ring_30 : decode cX6_ring 30 = .ok (.if_icmp .ge 21, 3) := by decide +kernel
theorem dX6_ring_33 : decode cX6_ring 33 = .ok (.aload_n 0, 1) := by decide +kernel
theorem dX6_ring_34 : decode cX6_ring 34 = .ok (.getfield 7, 3) := by decide +kernel
theorem dX6_ring_37 : decode cX6_ring 37 = .ok (.sipush 245, 3) := by decide +kernel
theorem dX6_ring_40 : decode cX6_ring 40 = .ok (.iload_n 1, 1) := by decide +kernel
theorem dX6_ring_41 : decode cX6_ring 41 = .ok (.iadd, 1) := by decide +kernel
theorem dX6_ring_42 : decode cX6_ring 42 = .ok (.bipush (-4), 2) := by decide +kernel
theorem dX6_ring_44 : decode cX6_ring 44 = .ok (.iastore, 1) := by decide +kernel
theorem dX6_ring_45 : decode cX6_ring 45 = .ok (.iinc 1 1, 3) := by decide +kernel
theorem dX6_ring_48 : decode cX6_ring 48 = .ok (.goto (-21), 3) := by decide +kernel
theorem dX6_ring_51 : decode cX6_ring 51 = .ok (.aload_n 0, 1) := by decide +kernel
theorem dX6_ring_52 : decode cX6_ring 52 = .ok (.getfield 7, 3) := by decide +kernel
theorem dX6_ring_55 : decode cX6_ring 55 = .ok (.sipush 244, 3) := by decide +kernel
theorem dX6_ring_58 : decode cX6_ring 58 = .ok (.aload_n 0, 1) := by decide +kernel
theorem dX6_ring_59 : decode cX6_ring 59 = .ok (.getfield 7, 3) := by decide +kernel
theorem dX6_ring_62 : decode cX6_ring 62 = .ok (.iconst 4, 1) := by decide +kernel
theorem dX6_ring_63 : decode cX6_ring 63 = .ok (.iaload, 1) := by decide +kernel
theorem dX6_ring_64 : decode cX6_ring 64 = .ok (.iastore, 1) := by decide +kernel
theorem dX6_ring_65 : decode cX6_ring 65 = .ok (.aload_n 0, 1) := by decide +kernel
theorem dX6_ring_66 : decode cX6_ring 66 = .ok (.iconst 0, 1) := by decide +kernel
theorem dX6_ring_67 : decode cX6_ring 67 = .ok (.putfield 114, 3) := by decide +kernel
theorem dX6_ring_70 : decode cX6_ring 70 = .ok (.aload_n 0, 1) := by decide +kernel
theorem dX6_ring_71 : decode cX6_ring 71 = .ok (.invokevirtual 136, 3) := by decide +kernel
theorem dX6_ring_74 : decode cX6_ring 74 = .ok (.istore_n 1, 1) := by decide +kernel
theorem dX6_ring_75 : decode cX6_ring 75 = .ok (.aload_n 0, 1) := by decide +kernel
theorem dX6_ring_76 : decode cX6_ring 76 = .ok (.iconst 0, 1) := by decide +kernel
theorem dX6_ring_77 : decode cX6_ring 77 = .ok (.putfield 110, 3) := by decide +kernel
theorem dX6_ring_80 : decode cX6_ring 80 = .ok (.iload_n 1, 1) := by decide +kernel
theorem dX6_ring_81 : decode cX6_ring 81 = .ok (.ifCond .ne 11, 3) := by decide +kernel
theorem dX6_ring_84 : decode cX6_ring 84 = .ok (.bipush (-20), 2) := by decide +kernel
theorem dX6_ring_86 : decode cX6_ring 86 = .ok (.aload_n 0, 1) := by decide +kernel
theorem dX6_ring_87 : decode cX6_ring 87 = .ok (.getfield 114, 3) := by decide +kernel
theorem dX6_ring_90 : decode cX6_ring 90 = .ok (.isub, 1) := by decide +kernel
theorem dX6_ring_91 : decode cX6_ring 91 = .ok (.ireturn, 1) := by decide +kernel
theorem dX6_ring_92 : decode cX6_ring 92 = .ok (.aload_n 0, 1) := by decide +kernel
theorem dX6_ring_93 : decode cX6_ring 93 = .ok (.sipush 240, 3) := by decide +kernel
theorem dX6_ring_96 : decode cX6_ring 96 = .ok (.iconst 0, 1) := by decide +kernel
theorem dX6_ring_97 : decode cX6_ring 97 = .ok (.bipush 39, 2) := by decide +kernel
theorem dX6_ring_99 : decode cX6_ring 99 = .ok (.invokevirtual 139, 3) := by decide +kernel
theorem dX6_ring_102 : decode cX6_ring 102 = .ok (.aload_n 0, 1) := by decide +kernel
theorem dX6_ring_103 : decode cX6_ring 103 = .ok (.getfield 7, 3) := by decide +kernel
theorem dX6_ring_106 : decode cX6_ring 106 = .ok (.bipush 39, 2) := by decide +kernel
theorem dX6_ring_108 : decode cX6_ring 108 = .ok (.iconst 0, 1) := by decide +kernel
theorem dX6_ring_109 : decode cX6_ring 109 = .ok (.iastore, 1) := by decide +kernel
theorem dX6_ring_110 : decode cX6_ring 110 = .ok (.aload_n 0, 1) := by decide +kernel
theorem dX6_ring_111 : decode cX6_ring 111 = .ok (.getfield 7, 3) := by decide +kernel
theorem dX6_ring_114 : decode cX6_ring 114 = .ok (.iconst 0, 1) := by decide +kernel
theorem dX6_ring_115 : decode cX6_ring 115 = .ok (.iaload, 1) := by decide +kernel
theorem dX6_ring_116 : decode cX6_ring 116 = .ok (.ireturn, 1) := by decide +kernel
theorem dX6_goneOnes_0 : decode cX6_goneOnes 0 = .ok (.iconst 0, 1) := by decide +kernel
theorem dX6_goneOnes_1 : decode cX6_goneOnes 1 = .ok (.istore_n 1, 1) := by decide +kernel
theorem dX6_goneOnes_2 : decode cX6_goneOnes 2 = .ok (.iconst 0, 1) := by decide +kernel
theorem dX6_goneOnes_3 : decode cX6_goneOnes 3 = .ok (.istore_n 2, 1) := by decide +kernel
theorem dX6_goneOnes_4 : decode cX6_goneOnes 4 = .ok (.iload_n 2, 1) := by decide +kernel
theorem dX6_goneOnes_5 : decode cX6_goneOnes 5 = .ok (.aload_n 0, 1) := by decide +kernel
theorem dX6_goneOnes_6 : decode cX6_goneOnes 6 = .ok (.getfield 7, 3) := by decide +kernel
theorem dX6_goneOnes_9 : decode cX6_goneOnes 9 = .ok (.iconst 0, 1) := by decide +kernel
theorem dX6_goneOnes_10 : decode cX6_goneOnes 10 = .ok (.iaload, 1) := by decide +kernel
theorem dX6_goneOnes_11 : decode cX6_goneOnes 11 = .ok (.if_icmp .ge 32, 3) := by decide +kernel
theorem dX6_goneOnes_14 : decode cX6_goneOnes 14 = .ok (.iload_n 1, 1) := by decide +kernel
theorem dX6_goneOnes_15 : decode cX6_goneOnes 15 = .ok (.aload_n 0, 1) := by decide +kernel
theorem dX6_goneOnes_16 : decode cX6_goneOnes 16 = .ok (.getfield 7, 3) := by decide +kernel
theorem dX6_goneOnes_19 : decode cX6_goneOnes 19 = .ok (.iconst 5, 1) := by decide +kernel
theorem dX6_goneOnes_20 : decode cX6_goneOnes 20 = .ok (.iload_n 2, 1) := by decide +kernel
theorem dX6_goneOnes_21 : decode cX6_goneOnes 21 = .ok (.iadd, 1) := by decide +kernel
theorem dX6_goneOnes_22 : decode cX6_goneOnes 22 = .ok (.iaload, 1) := by decide +kernel
theorem dX6_goneOnes_23 : decode cX6_goneOnes 23 = .ok (.bipush (-4), 2) := by decide +kernel
theorem dX6_goneOnes_25 : decode cX6_goneOnes 25 = .ok (.if_icmp .ne 9, 3) := by decide +kernel
theorem dX6_goneOnes_28 : decode cX6_goneOnes 28 = .ok (.iconst 1, 1) := by decide +kernel
theorem dX6_goneOnes_29 : decode cX6_goneOnes 29 = .ok (.iload_n 2, 1) := by decide +kernel
theorem dX6_goneOnes_30 : decode cX6_goneOnes 30 = .ok (.ishl, 1) := by decide +kernel
theorem dX6_goneOnes_31 : decode cX6_goneOnes 31 = .ok (.goto 4, 3) := by decide +kernel
theorem dX6_goneOnes_34 : decode cX6_goneOnes 34 = .ok (.iconst 0, 1) := by decide +kernel
theorem dX6_goneOnes_35 : decode cX6_goneOnes 35 = .ok (.ior, 1) := by decide +kernel
theorem dX6_goneOnes_36 : decode cX6_goneOnes 36 = .ok (.istore_n 1, 1) := by decide +kernel
theorem dX6_goneOnes_37 : decode cX6_goneOnes 37 = .ok (.iinc 2 1, 3) := by decide +kernel
theorem dX6_goneOnes_40 : decode cX6_goneOnes 40 = .ok (.goto (-36), 3) := by decide +kernel
theorem dX6_goneOnes_43 : decode cX6_goneOnes 43 = .ok (.iload_n 1, 1) := by decide +kernel
theorem dX6_goneOnes_44 : decode cX6_goneOnes 44 = .ok (.ireturn, 1) := by decide +kernel
theorem dX6_count_0 : decode cX6_count 0 = .ok (.iload_n 1, 1) := by decide +kernel
theorem dX6_count_1 : decode cX6_count 1 = .ok (.tableswitch 129 0 7 #[47, 54, 61, 68, 75, 80, 85, 121], 47) := by decide +kernel
theorem dX6_count_48 : decode cX6_count 48 = .ok (.aload_n 0, 1) := by decide +kernel
theorem dX6_count_49 : decode cX6_count 49 = .ok (.getfield 7, 3) := by decide +kernel
theorem dX6_count_52 : decode cX6_count 52 = .ok (.iconst 0, 1) := by decide +kernel
theorem dX6_count_53 : decode cX6_count 53 = .ok (.iaload, 1) := by decide +kernel
theorem dX6_count_54 : decode cX6_count 54 = .ok (.ireturn, 1) := by decide +kernel
theorem dX6_count_55 : decode cX6_count 55 = .ok (.aload_n 0, 1) := by decide +kernel
theorem dX6_count_56 : decode cX6_count 56 = .ok (.getfield 7, 3) := by decide +kernel
theorem dX6_count_59 : decode cX6_count 59 = .ok (.iconst 1, 1) := by decide +kernel
theorem dX6_count_60 : decode cX6_count 60 = .ok (.iaload, 1) := by decide +kernel
theorem dX6_count_61 : decode cX6_count 61 = .ok (.ireturn, 1) := by decide +kernel
theorem dX6_count_62 : decode cX6_count 62 = .ok (.aload_n 0, 1) := by decide +kernel
theorem dX6_count_63 : decode cX6_count 63 = .ok (.getfield 7, 3) := by decide +kernel
theorem dX6_count_66 : decode cX6_count 66 = .ok (.iconst 2, 1) := by decide +kernel
theorem dX6_count_67 : decode cX6_count 67 = .ok (.iaload, 1) := by decide +kernel
theorem dX6_count_68 : decode cX6_count 68 = .ok (.ireturn, 1) := by decide +kernel
theorem dX6_count_69 : decode cX6_count 69 = .ok (.aload_n 0, 1) := by decide +kernel
theorem dX6_count_70 : decode cX6_count 70 = .ok (.getfield 7, 3) := by decide +kernel
theorem dX6_count_73 : decode cX6_count 73 = .ok (.iconst 3, 1) := by decide +kernel
theorem dX6_count_74 : decode cX6_count 74 = .ok (.iaload, 1) := by decide +kernel
theorem dX6_count_75 : decode cX6_count 75 = .ok (.ireturn, 1) := by decide +kernel
theorem dX6_count_76 : decode cX6_count 76 = .ok (.aload_n 0, 1) := by decide +kernel
theorem dX6_count_77 : decode cX6_count 77 = .ok (.invokevirtual 78, 3) := by decide +kernel
theorem dX6_count_80 : decode cX6_count 80 = .ok (.ireturn, 1) := by decide +kernel
theorem dX6_count_81 : decode cX6_count 81 = .ok (.aload_n 0, 1) := by decide +kernel
theorem dX6_count_82 : decode cX6_count 82 = .ok (.invokevirtual 143, 3) := by decide +kernel
theorem dX6_count_85 : decode cX6_count 85 = .ok (.ireturn, 1) := by decide +kernel
theorem dX6_count_86 : decode cX6_count 86 = .ok (.aload_n 0, 1) := by decide +kernel
theorem dX6_count_87 : decode cX6_count 87 = .ok (.getfield 7, 3) := by decide +kernel
theorem dX6_count_90 : decode cX6_count 90 = .ok (.iconst 2, 1) := by decide +kernel
theorem dX6_count_91 : decode cX6_count 91 = .ok (.iaload, 1) := by decide +kernel
theorem dX6_count_92 : decode cX6_count 92 = .ok (.ifCond .ne 8, 3) := by decide +kernel
theorem dX6_count_95 : decode cX6_count 95 = .ok (.bipush (-4), 2) := by decide +kernel
theorem dX6_count_97 : decode cX6_count 97 = .ok (.goto 24, 3) := by decide +kernel
theorem dX6_count_100 : decode cX6_count 100 = .ok (.aload_n 0, 1) := by decide +kernel
theorem dX6_count_101 : decode cX6_count 101 = .ok (.getfield 7, 3) := by decide +kernel
theorem dX6_count_104 : decode cX6_count 104 = .ok (.bipush 23, 2) := by decide +kernel
theorem dX6_count_106 : decode cX6_count 106 = .ok (.aload_n 0, 1) := by decide +kernel
theorem dX6_count_107 : decode cX6_count 107 = .ok (.getfield 7, 3) := by decide +kernel
theorem dX6_count_110 : decode cX6_count 110 = .ok (.iconst 3, 1) := by decide +kernel
theorem dX6_count_111 : decode cX6_count 111 = .ok (.iaload, 1) := by decide +kernel
theorem dX6_count_112 : decode cX6_count 112 = .ok (.aload_n 0, 1) := by decide +kernel
theorem dX6_count_113 : decode cX6_count 113 = .ok (.getfield 7, 3) := by decide +kernel
theorem dX6_count_116 : decode cX6_count 116 = .ok (.iconst 2, 1) := by decide +kernel
theorem dX6_count_117 : decode cX6_count 117 = .ok (.iaload, 1) := by decide +kernel
theorem dX6_count_118 : decode cX6_count 118 = .ok (.irem, 1) := by decide +kernel
theorem dX6_count_119 : decode cX6_count 119 = .ok (.iadd, 1) := by decide +kernel
theorem dX6_count_120 : decode cX6_count 120 = .ok (.iaload, 1) := by decide +kernel
theorem dX6_count_121 : decode cX6_count 121 = .ok (.ireturn, 1) := by decide +kernel
theorem dX6_count_122 : decode cX6_count 122 = .ok (.aload_n 0, 1) := by decide +kernel
theorem dX6_count_123 : decode cX6_count 123 = .ok (.getfield 7, 3) := by decide +kernel
theorem dX6_count_126 : decode cX6_count 126 = .ok (.bipush 39, 2) := by decide +kernel
theorem dX6_count_128 : decode cX6_count 128 = .ok (.iaload, 1) := by decide +kernel
theorem dX6_count_129 : decode cX6_count 129 = .ok (.ireturn, 1) := by decide +kernel
theorem dX6_count_130 : decode cX6_count 130 = .ok (.iconst (-1), 1) := by decide +kernel
theorem dX6_count_131 : decode cX6_count 131 = .ok (.ireturn, 1) := by decide +kernel
theorem dX6_minds_0 : decode cX6_minds 0 = .ok (.aload_n 0, 1) := by decide +kernel
theorem dX6_minds_1 : decode cX6_minds 1 = .ok (.getfield 7, 3) := by decide +kernel
theorem dX6_minds_4 : decode cX6_minds 4 = .ok (.bipush 39, 2) := by decide +kernel
theorem dX6_minds_6 : decode cX6_minds 6 = .ok (.iaload, 1) := by decide +kernel
theorem dX6_minds_7 : decode cX6_minds 7 = .ok (.bipush 8, 2) := by decide +kernel
theorem dX6_minds_9 : decode cX6_minds 9 = .ok (.if_icmp .ne 24, 3) := by decide +kernel
theorem dX6_minds_12 : decode cX6_minds 12 = .ok (.aload_n 0, 1) := by decide +kernel
theorem dX6_minds_13 : decode cX6_minds 13 = .ok (.bipush 50, 2) := by decide +kernel
theorem dX6_minds_15 : decode cX6_minds 15 = .ok (.bipush 40, 2) := by decide +kernel
theorem dX6_minds_17 : decode cX6_minds 17 = .ok (.bipush 70, 2) := by decide +kernel
theorem dX6_minds_19 : decode cX6_minds 19 = .ok (.invokevirtual 139, 3) := by decide +kernel
theorem dX6_minds_22 : decode cX6_minds 22 = .ok (.aload_n 0, 1) := by decide +kernel
theorem dX6_minds_23 : decode cX6_minds 23 = .ok (.getfield 7, 3) := by decide +kernel
theorem dX6_minds_26 : decode cX6_minds 26 = .ok (.bipush 39, 2) := by decide +kernel
theorem dX6_minds_28 : decode cX6_minds 28 = .ok (.dup2, 1) := by decide +kernel
theorem dX6_minds_29 : decode cX6_minds 29 = .ok (.iaload, 1) := by decide +kernel
theorem dX6_minds_30 : decode cX6_minds 30 = .ok (.iconst 1, 1) := by decide +kernel
theorem dX6_minds_31 : decode cX6_minds 31 = .ok (.isub, 1) := by decide +kernel
theorem dX6_minds_32 : decode cX6_minds 32 = .ok (.iastore, 1) := by decide +kernel
theorem dX6_minds_33 : decode cX6_minds 33 = .ok (.aload_n 0, 1) := by decide +kernel
theorem dX6_minds_34 : decode cX6_minds 34 = .ok (.iconst 3, 1) := by decide +kernel
theorem dX6_minds_35 : decode cX6_minds 35 = .ok (.bipush 40, 2) := by decide +kernel
theorem dX6_minds_37 : decode cX6_minds 37 = .ok (.bipush 10, 2) := by decide +kernel
theorem dX6_minds_39 : decode cX6_minds 39 = .ok (.aload_n 0, 1) := by decide +kernel
theorem dX6_minds_40 : decode cX6_minds 40 = .ok (.getfield 7, 3) := by decide +kernel
theorem dX6_minds_43 : decode cX6_minds 43 = .ok (.bipush 39, 2) := by decide +kernel
theorem dX6_minds_45 : decode cX6_minds 45 = .ok (.iaload, 1) := by decide +kernel
theorem dX6_minds_46 : decode cX6_minds 46 = .ok (.imul, 1) := by decide +kernel
theorem dX6_minds_47 : decode cX6_minds 47 = .ok (.iadd, 1) := by decide +kernel
theorem dX6_minds_48 : decode cX6_minds 48 = .ok (.bipush 10, 2) := by decide +kernel
theorem dX6_minds_50 : decode cX6_minds 50 = .ok (.invokevirtual 139, 3) := by decide +kernel
theorem dX6_minds_53 : decode cX6_minds 53 = .ok (.aload_n 0, 1) := by decide +kernel
theorem dX6_minds_54 : decode cX6_minds 54 = .ok (.getfield 7, 3) := by decide +kernel
theorem dX6_minds_57 : decode cX6_minds 57 = .ok (.bipush 39, 2) := by decide +kernel
theorem dX6_minds_59 : decode cX6_minds 59 = .ok (.dup2, 1) := by decide +kernel
theorem dX6_minds_60 : decode cX6_minds 60 = .ok (.iaload, 1) := by decide +kernel
theorem dX6_minds_61 : decode cX6_minds 61 = .ok (.iconst 1, 1) := by decide +kernel
theorem dX6_minds_62 : decode cX6_minds 62 = .ok (.iadd, 1) := by decide +kernel
theorem dX6_minds_63 : decode cX6_minds 63 = .ok (.iastore, 1) := by decide +kernel
theorem dX6_minds_64 : decode cX6_minds 64 = .ok (.return_, 1) := by decide +kernel
theorem dX6_passes_0 : decode cX6_passes 0 = .ok (.iconst 0, 1) := by decide +kernel
theorem dX6_passes_1 : decode cX6_passes 1 = .ok (.istore_n 1, 1) := by decide +kernel
theorem dX6_passes_2 : decode cX6_passes 2 = .ok (.iload_n 1, 1) := by decide +kernel
theorem dX6_passes_3 : decode cX6_passes 3 = .ok (.aload_n 0, 1) := by decide +kernel
theorem dX6_passes_4 : decode cX6_passes 4 = .ok (.getfield 7, 3) := by decide +kernel
theorem dX6_passes_7 : decode cX6_passes 7 = .ok (.iconst 0, 1) := by decide +kernel
theorem dX6_passes_8 : decode cX6_passes 8 = .ok (.iaload, 1) := by decide +kernel
theorem dX6_passes_9 : decode cX6_passes 9 = .ok (.if_icmp .ge 72, 3) := by decide +kernel
theorem dX6_passes_12 : decode cX6_passes 12 = .ok (.aload_n 0, 1) := by decide +kernel
theorem dX6_passes_13 : decode cX6_passes 13 = .ok (.getfield 7, 3) := by decide +kernel
theorem dX6_passes_16 : decode cX6_passes 16 = .ok (.iconst 2, 1) := by decide +kernel
theorem dX6_passes_17 : decode cX6_passes 17 = .ok (.iaload, 1) := by decide +kernel
theorem dX6_passes_18 : decode cX6_passes 18 = .ok (.ifCond .le 63, 3) := by decide +kernel
theorem dX6_passes_21 : decode cX6_passes 21 = .ok (.aload_n 0, 1) := by decide +kernel
theorem dX6_passes_22 : decode cX6_passes 22 = .ok (.getfield 7, 3) := by decide +kernel
theorem dX6_passes_25 : decode cX6_passes 25 = .ok (.iconst 5, 1) := by decide +kernel
theorem dX6_passes_26 : decode cX6_passes 26 = .ok (.iload_n 1, 1) := by decide +kernel
theorem dX6_passes_27 : decode cX6_passes 27 = .ok (.iadd, 1) := by decide +kernel
theorem dX6_passes_28 : decode cX6_passes 28 = .ok (.iaload, 1) := by decide +kernel
theorem dX6_passes_29 : decode cX6_passes 29 = .ok (.bipush (-4), 2) := by decide +kernel
theorem dX6_passes_31 : decode cX6_passes 31 = .ok (.if_icmp .eq 44, 3) := by decide +kernel
theorem dX6_passes_34 : decode cX6_passes 34 = .ok (.aload_n 0, 1) := by decide +kernel
theorem dX6_passes_35 : decode cX6_passes 35 = .ok (.getfield 7, 3) := by decide +kernel
theorem dX6_passes_38 : decode cX6_passes 38 = .ok (.iconst 5, 1) := by decide +kernel
theorem dX6_passes_39 : decode cX6_passes 39 = .ok (.iload_n 1, 1) := by decide +kernel
theorem dX6_passes_40 : decode cX6_passes 40 = .ok (.iadd, 1) := by decide +kernel
theorem dX6_passes_41 : decode cX6_passes 41 = .ok (.aload_n 0, 1) := by decide +kernel
theorem dX6_passes_42 : decode cX6_passes 42 = .ok (.aload_n 0, 1) := by decide +kernel
theorem dX6_passes_43 : decode cX6_passes 43 = .ok (.getfield 7, 3) := by decide +kernel
theorem dX6_passes_46 : decode cX6_passes 46 = .ok (.bipush 23, 2) := by decide +kernel
theorem dX6_passes_48 : decode cX6_passes 48 = .ok (.aload_n 0, 1) := by decide +kernel
theorem dX6_passes_49 : decode cX6_passes 49 = .ok (.getfield 7, 3) := by decide +kernel
theorem dX6_passes_52 : decode cX6_passes 52 = .ok (.iconst 3, 1) := by decide +kernel
theorem dX6_passes_53 : decode cX6_passes 53 = .ok (.iaload, 1) := by decide +kernel
theorem dX6_passes_54 : decode cX6_passes 54 = .ok (.aload_n 0, 1) := by decide +kernel
theorem dX6_passes_55 : decode cX6_passes 55 = .ok (.getfield 7, 3) := by decide +kernel
theorem dX6_passes_58 : decode cX6_passes 58 = .ok (.iconst 2, 1) := by decide +kernel
theorem dX6_passes_59 : decode cX6_passes 59 = .ok (.iaload, 1) := by decide +kernel
theorem dX6_passes_60 : decode cX6_passes 60 = .ok (.irem, 1) := by decide +kernel
theorem dX6_passes_61 : decode cX6_passes 61 = .ok (.iadd, 1) := by decide +kernel
theorem dX6_passes_62 : decode cX6_passes 62 = .ok (.iaload, 1) := by decide +kernel
theorem dX6_passes_63 : decode cX6_passes 63 = .ok (.aload_n 0, 1) := by decide +kernel
theorem dX6_passes_64 : decode cX6_passes 64 = .ok (.getfield 7, 3) := by decide +kernel
theorem dX6_passes_67 : decode cX6_passes 67 = .ok (.iconst 5, 1) := by decide +kernel
theorem dX6_passes_68 : decode cX6_passes 68 = .ok (.iload_n 1, 1) := by decide +kernel
theorem dX6_passes_69 : decode cX6_passes 69 = .ok (.iadd, 1) := by decide +kernel
theorem dX6_passes_70 : decode cX6_passes 70 = .ok (.iaload, 1) := by decide +kernel
theorem dX6_passes_71 : decode cX6_passes 71 = .ok (.invokevirtual 67, 3) := by decide +kernel
theorem dX6_passes_74 : decode cX6_passes 74 = .ok (.iastore, 1) := by decide +kernel
theorem dX6_passes_75 : decode cX6_passes 75 = .ok (.iinc 1 1, 3) := by decide +kernel
theorem dX6_passes_78 : decode cX6_passes 78 = .ok (.goto (-76), 3) := by decide +kernel
theorem dX6_passes_81 : decode cX6_passes 81 = .ok (.aload_n 0, 1) := by decide +kernel
theorem dX6_passes_82 : decode cX6_passes 82 = .ok (.getfield 7, 3) := by decide +kernel
theorem dX6_passes_85 : decode cX6_passes 85 = .ok (.iconst 3, 1) := by decide +kernel
theorem dX6_passes_86 : decode cX6_passes 86 = .ok (.dup2, 1) := by decide +kernel
theorem dX6_passes_87 : decode cX6_passes 87 = .ok (.iaload, 1) := by decide +kernel
theorem dX6_passes_88 : decode cX6_passes 88 = .ok (.iconst 1, 1) := by decide +kernel
theorem dX6_passes_89 : decode cX6_passes 89 = .ok (.iadd, 1) := by decide +kernel
theorem dX6_passes_90 : decode cX6_passes 90 = .ok (.iastore, 1) := by decide +kernel
theorem dX6_passes_91 : decode cX6_passes 91 = .ok (.return_, 1) := by decide +kernel
theorem dX6_blows_0 : decode cX6_blows 0 = .ok (.iconst 0, 1) := by decide +kernel
theorem dX6_blows_1 : decode cX6_blows 1 = .ok (.istore_n 2, 1) := by decide +kernel
theorem dX6_blows_2 : decode cX6_blows 2 = .ok (.iload_n 2, 1) := by decide +kernel
theorem dX6_blows_3 : decode cX6_blows 3 = .ok (.aload_n 0, 1) := by decide +kernel
theorem dX6_blows_4 : decode cX6_blows 4 = .ok (.getfield 7, 3) := by decide +kernel
theorem dX6_blows_7 : decode cX6_blows 7 = .ok (.iconst 0, 1) := by decide +kernel
theorem dX6_blows_8 : decode cX6_blows 8 = .ok (.iaload, 1) := by decide +kernel
theorem dX6_blows_9 : decode cX6_blows 9 = .ok (.if_icmp .ge 48, 3) := by decide +kernel
theorem dX6_blows_12 : decode cX6_blows 12 = .ok (.aload_n 0, 1) := by decide +kernel
theorem dX6_blows_13 : decode cX6_blows 13 = .ok (.getfield 7, 3) := by decide +kernel
theorem dX6_blows_16 : decode cX6_blows 16 = .ok (.iconst 5, 1) := by decide +kernel
theorem dX6_blows_17 : decode cX6_blows 17 = .ok (.iload_n 2, 1) := by decide +kernel
theorem dX6_blows_18 : decode cX6_blows 18 = .ok (.iadd, 1) := by decide +kernel
theorem dX6_blows_19 : decode cX6_blows 19 = .ok (.aload_n 0, 1) := by decide +kernel
theorem dX6_blows_20 : decode cX6_blows 20 = .ok (.getfield 7, 3) := by decide +kernel
theorem dX6_blows_23 : decode cX6_blows 23 = .ok (.iconst 5, 1) := by decide +kernel
theorem dX6_blows_24 : decode cX6_blows 24 = .ok (.iload_n 2, 1) := by decide +kernel
theorem dX6_blows_25 : decode cX6_blows 25 = .ok (.iadd, 1) := by decide +kernel
theorem dX6_blows_26 : decode cX6_blows 26 = .ok (.iaload, 1) := by decide +kernel
theorem dX6_blows_27 : decode cX6_blows 27 = .ok (.bipush (-4), 2) := by decide +kernel
theorem dX6_blows_29 : decode cX6_blows 29 = .ok (.if_icmp .ne 8, 3) := by decide +kernel
theorem dX6_blows_32 : decode cX6_blows 32 = .ok (.bipush (-4), 2) := by decide +kernel
theorem dX6_blows_34 : decode cX6_blows 34 = .ok (.goto 16, 3) := by decide +kernel
theorem dX6_blows_37 : decode cX6_blows 37 = .ok (.aload_n 0, 1) := by decide +kernel
theorem dX6_blows_38 : decode cX6_blows 38 = .ok (.getfield 7, 3) := by decide +kernel
theorem dX6_blows_41 : decode cX6_blows 41 = .ok (.iconst 5, 1) := by decide +kernel
theorem dX6_blows_42 : decode cX6_blows 42 = .ok (.iload_n 2, 1) := by decide +kernel
theorem dX6_blows_43 : decode cX6_blows 43 = .ok (.iadd, 1) := by decide +kernel
theorem dX6_blows_44 : decode cX6_blows 44 = .ok (.iaload, 1) := by decide +kernel
theorem dX6_blows_45 : decode cX6_blows 45 = .ok (.iload_n 1, 1) := by decide +kernel
theorem dX6_blows_46 : decode cX6_blows 46 = .ok (.iadd, 1) := by decide +kernel
theorem dX6_blows_47 : decode cX6_blows 47 = .ok (.bipush 8, 2) := by decide +kernel
theorem dX6_blows_49 : decode cX6_blows 49 = .ok (.irem, 1) := by decide +kernel
theorem dX6_blows_50 : decode cX6_blows 50 = .ok (.iastore, 1) := by decide +kernel
theorem dX6_blows_51 : decode cX6_blows 51 = .ok (.iinc 2 1, 3) := by decide +kernel
theorem dX6_blows_54 : decode cX6_blows 54 = .ok (.goto (-52), 3) := by decide +kernel
theorem dX6_blows_57 : decode cX6_blows 57 = .ok (.return_, 1) := by decide +kernel
theorem dX6_beats_0 : decode cX6_beats 0 = .ok (.iload_n 1, 1) := by decide +kernel
theorem dX6_beats_1 : decode cX6_beats 1 = .ok (.i2l, 1) := by decide +kernel
theorem dX6_beats_2 : decode cX6_beats 2 = .ok (.lconst 1, 1) := by decide +kernel
theorem dX6_beats_3 : decode cX6_beats 3 = .ok (.ldc2_w 146, 3) := by decide +kernel
theorem dX6_beats_6 : decode cX6_beats 6 = .ok (.invokestatic 52, 3) := by decide +kernel
theorem dX6_beats_9 : decode cX6_beats 9 = .ok (.ifCond .ne 5, 3) := by decide +kernel
theorem dX6_beats_12 : decode cX6_beats 12 = .ok (.iconst (-1), 1) := by decide +kernel
theorem dX6_beats_13 : decode cX6_beats 13 = .ok (.ireturn, 1) := by decide +kernel
theorem dX6_beats_14 : decode cX6_beats 14 = .ok (.aload_n 0, 1) := by decide +kernel
theorem dX6_beats_15 : decode cX6_beats 15 = .ok (.getfield 7, 3) := by decide +kernel
theorem dX6_beats_18 : decode cX6_beats 18 = .ok (.iconst 3, 1) := by decide +kernel
theorem dX6_beats_19 : decode cX6_beats 19 = .ok (.iaload, 1) := by decide +kernel
theorem dX6_beats_20 : decode cX6_beats 20 = .ok (.iload_n 1, 1) := by decide +kernel
theorem dX6_beats_21 : decode cX6_beats 21 = .ok (.iadd, 1) := by decide +kernel
theorem dX6_beats_22 : decode cX6_beats 22 = .ok (.sipush 9999, 3) := by decide +kernel
theorem dX6_beats_25 : decode cX6_beats 25 = .ok (.if_icmp .le 6, 3) := by decide +kernel
theorem dX6_beats_28 : decode cX6_beats 28 = .ok (.bipush (-3), 2) := by decide +kernel
theorem dX6_beats_30 : decode cX6_beats 30 = .ok (.ireturn, 1) := by decide +kernel
theorem dX6_beats_31 : decode cX6_beats 31 = .ok (.iconst 0, 1) := by decide +kernel
theorem dX6_beats_32 : decode cX6_beats 32 = .ok (.istore_n 2, 1) := by decide +kernel
theorem dX6_beats_33 : decode cX6_beats 33 = .ok (.iload_n 2, 1) := by decide +kernel
theorem dX6_beats_34 : decode cX6_beats 34 = .ok (.iload_n 1, 1) := by decide +kernel
theorem dX6_beats_35 : decode cX6_beats 35 = .ok (.if_icmp .ge 17, 3) := by decide +kernel
theorem dX6_beats_38 : decode cX6_beats 38 = .ok (.aload_n 0, 1) := by decide +kernel
theorem dX6_beats_39 : decode cX6_beats 39 = .ok (.invokevirtual 148, 3) := by decide +kernel
theorem dX6_beats_42 : decode cX6_beats 42 = .ok (.aload_n 0, 1) := by decide +kernel
theorem dX6_beats_43 : decode cX6_beats 43 = .ok (.invokevirtual 151, 3) := by decide +kernel
theorem dX6_beats_46 : decode cX6_beats 46 = .ok (.iinc 2 1, 3) := by decide +kernel
theorem dX6_beats_49 : decode cX6_beats 49 = .ok (.goto (-16), 3) := by decide +kernel
theorem dX6_beats_52 : decode cX6_beats 52 = .ok (.aload_n 0, 1) := by decide +kernel
theorem dX6_beats_53 : decode cX6_beats 53 = .ok (.invokevirtual 78, 3) := by decide +kernel
theorem dX6_beats_56 : decode cX6_beats 56 = .ok (.ireturn, 1) := by decide +kernel
theorem dX6_draught_0 : decode cX6_draught 0 = .ok (.iload_n 1, 1) := by decide +kernel
theorem dX6_draught_1 : decode cX6_draught 1 = .ok (.i2l, 1) := by decide +kernel
theorem dX6_draught_2 : decode cX6_draught 2 = .ok (.lconst 1, 1) := by decide +kernel
theorem dX6_draught_3 : decode cX6_draught 3 = .ok (.ldc2_w 50, 3) := by decide +kernel
theorem dX6_draught_6 : decode cX6_draught 6 = .ok (.invokestatic 52, 3) := by decide +kernel
theorem dX6_draught_9 : decode cX6_draught 9 = .ok (.ifCond .ne 5, 3) := by decide +kernel
theorem dX6_draught_12 : decode cX6_draught 12 = .ok (.iconst (-1), 1) := by decide +kernel
theorem dX6_draught_13 : decode cX6_draught 13 = .ok (.ireturn, 1) := by decide +kernel
theorem dX6_draught_14 : decode cX6_draught 14 = .ok (.aload_n 0, 1) := by decide +kernel
theorem dX6_draught_15 : decode cX6_draught 15 = .ok (.invokevirtual 148, 3) := by decide +kernel
theorem dX6_draught_18 : decode cX6_draught 18 = .ok (.aload_n 0, 1) := by decide +kernel
theorem dX6_draught_19 : decode cX6_draught 19 = .ok (.iload_n 1, 1) := by decide +kernel
theorem dX6_draught_20 : decode cX6_draught 20 = .ok (.invokevirtual 154, 3) := by decide +kernel
theorem dX6_draught_23 : decode cX6_draught 23 = .ok (.aload_n 0, 1) := by decide +kernel
theorem dX6_draught_24 : decode cX6_draught 24 = .ok (.invokevirtual 78, 3) := by decide +kernel
theorem dX6_draught_27 : decode cX6_draught 27 = .ok (.ireturn, 1) := by decide +kernel
theorem dX6_leave_0 : decode cX6_leave 0 = .ok (.aload_n 0, 1) := by decide +kernel
theorem dX6_leave_1 : decode cX6_leave 1 = .ok (.iload_n 1, 1) := by decide +kernel
theorem dX6_leave_2 : decode cX6_leave 2 = .ok (.invokevirtual 100, 3) := by decide +kernel
theorem dX6_leave_5 : decode cX6_leave 5 = .ok (.ifCond .ne 5, 3) := by decide +kernel
theorem dX6_leave_8 : decode cX6_leave 8 = .ok (.iconst (-1), 1) := by decide +kernel
theorem dX6_leave_9 : decode cX6_leave 9 = .ok (.ireturn, 1) := by decide +kernel
theorem dX6_leave_10 : decode cX6_leave 10 = .ok (.aload_n 0, 1) := by decide +kernel
theorem dX6_leave_11 : decode cX6_leave 11 = .ok (.getfield 7, 3) := by decide +kernel
theorem dX6_leave_14 : decode cX6_leave 14 = .ok (.iconst 5, 1) := by decide +kernel
theorem dX6_leave_15 : decode cX6_leave 15 = .ok (.iload_n 1, 1) := by decide +kernel
theorem dX6_leave_16 : decode cX6_leave 16 = .ok (.iadd, 1) := by decide +kernel
theorem dX6_leave_17 : decode cX6_leave 17 = .ok (.iaload, 1) := by decide +kernel
theorem dX6_leave_18 : decode cX6_leave 18 = .ok (.istore_n 2, 1) := by decide +kernel
theorem dX6_leave_19 : decode cX6_leave 19 = .ok (.iload_n 2, 1) := by decide +kernel
theorem dX6_leave_20 : decode cX6_leave 20 = .ok (.bipush (-4), 2) := by decide +kernel
theorem dX6_leave_22 : decode cX6_leave 22 = .ok (.if_icmp .ne 6, 3) := by decide +kernel
theorem dX6_leave_25 : decode cX6_leave 25 = .ok (.bipush (-2), 2) := by decide +kernel
theorem dX6_leave_27 : decode cX6_leave 27 = .ok (.ireturn, 1) := by decide +kernel
theorem dX6_leave_28 : decode cX6_leave 28 = .ok (.aload_n 0, 1) := by decide +kernel
theorem dX6_leave_29 : decode cX6_leave 29 = .ok (.invokevirtual 148, 3) := by decide +kernel
theorem dX6_leave_32 : decode cX6_leave 32 = .ok (.aload_n 0, 1) := by decide +kernel
theorem dX6_leave_33 : decode cX6_leave 33 = .ok (.getfield 7, 3) := by decide +kernel
theorem dX6_leave_36 : decode cX6_leave 36 = .ok (.iconst 5, 1) := by decide +kernel
theorem dX6_leave_37 : decode cX6_leave 37 = .ok (.iload_n 1, 1) := by decide +kernel
theorem dX6_leave_38 : decode cX6_leave 38 = .ok (.iadd, 1) := by decide +kernel
theorem dX6_leave_39 : decode cX6_leave 39 = .ok (.bipush (-4), 2) := by decide +kernel
theorem dX6_leave_41 : decode cX6_leave 41 = .ok (.iastore, 1) := by decide +kernel
theorem dX6_leave_42 : decode cX6_leave 42 = .ok (.iload_n 2, 1) := by decide +kernel
theorem dX6_leave_43 : decode cX6_leave 43 = .ok (.ireturn, 1) := by decide +kernel
theorem dX6_come_0 : decode cX6_come 0 = .ok (.aload_n 0, 1) := by decide +kernel
theorem dX6_come_1 : decode cX6_come 1 = .ok (.iload_n 1, 1) := by decide +kernel
theorem dX6_come_2 : decode cX6_come 2 = .ok (.invokevirtual 100, 3) := by decide +kernel
theorem dX6_come_5 : decode cX6_come 5 = .ok (.ifCond .eq 10, 3) := by decide +kernel
theorem dX6_come_8 : decode cX6_come 8 = .ok (.iload_n 2, 1) := by decide +kernel
theorem dX6_come_9 : decode cX6_come 9 = .ok (.invokestatic 74, 3) := by decide +kernel
theorem dX6_come_12 : decode cX6_come 12 = .ok (.ifCond .ne 5, 3) := by decide +kernel
theorem dX6_come_15 : decode cX6_come 15 = .ok (.iconst (-1), 1) := by decide +kernel
theorem dX6_come_16 : decode cX6_come 16 = .ok (.ireturn, 1) := by decide +kernel
theorem dX6_come_17 : decode cX6_come 17 = .ok (.aload_n 0, 1) := by decide +kernel
theorem dX6_come_18 : decode cX6_come 18 = .ok (.getfield 7, 3) := by decide +kernel
theorem dX6_come_21 : decode cX6_come 21 = .ok (.iconst 5, 1) := by decide +kernel
theorem dX6_come_22 : decode cX6_come 22 = .ok (.iload_n 1, 1) := by decide +kernel
theorem dX6_come_23 : decode cX6_come 23 = .ok (.iadd, 1) := by decide +kernel
theorem dX6_come_24 : decode cX6_come 24 = .ok (.iaload, 1) := by decide +kernel
theorem dX6_come_25 : decode cX6_come 25 = .ok (.bipush (-4), 2) := by decide +kernel
theorem dX6_come_27 : decode cX6_come 27 = .ok (.if_icmp .ne 14, 3) := by decide +kernel
theorem dX6_come_30 : decode cX6_come 30 = .ok (.aload_n 0, 1) := by decide +kernel
theorem dX6_come_31 : decode cX6_come 31 = .ok (.invokevirtual 78, 3) := by decide +kernel
theorem dX6_come_34 : decode cX6_come 34 = .ok (.iload_n 2, 1) := by decide +kernel
theorem dX6_come_35 : decode cX6_come 35 = .ok (.invokestatic 82, 3) := by decide +kernel
theorem dX6_come_38 : decode cX6_come 38 = .ok (.ifCond .eq 6, 3) := by decide +kernel
theorem dX6_come_41 : decode cX6_come 41 = .ok (.bipush (-2), 2) := by decide +kernel
theorem dX6_come_43 : decode cX6_come 43 = .ok (.ireturn, 1) := by decide +kernel
theorem dX6_come_44 : decode cX6_come 44 = .ok (.aload_n 0, 1) := by decide +kernel
theorem dX6_come_45 : decode cX6_come 45 = .ok (.invokevirtual 148, 3) := by decide +kernel
theorem dX6_come_48 : decode cX6_come 48 = .ok (.aload_n 0, 1) := by decide +kernel
theorem dX6_come_49 : decode cX6_come 49 = .ok (.getfield 7, 3) := by decide +kernel
theorem dX6_come_52 : decode cX6_come 52 = .ok (.iconst 5, 1) := by decide +kernel
theorem dX6_come_53 : decode cX6_come 53 = .ok (.iload_n 1, 1) := by decide +kernel
theorem dX6_come_54 : decode cX6_come 54 = .ok (.iadd, 1) := by decide +kernel
theorem dX6_come_55 : decode cX6_come 55 = .ok (.iload_n 2, 1) := by decide +kernel
theorem dX6_come_56 : decode cX6_come 56 = .ok (.iastore, 1) := by decide +kernel
theorem dX6_come_57 : decode cX6_come 57 = .ok (.aload_n 0, 1) := by decide +kernel
theorem dX6_come_58 : decode cX6_come 58 = .ok (.invokevirtual 78, 3) := by decide +kernel
theorem dX6_come_61 : decode cX6_come 61 = .ok (.invokestatic 158, 3) := by decide +kernel
theorem dX6_come_64 : decode cX6_come 64 = .ok (.ireturn, 1) := by decide +kernel
theorem dX6_drift_0 : decode cX6_drift 0 = .ok (.iload_n 1, 1) := by decide +kernel
theorem dX6_drift_1 : decode cX6_drift 1 = .ok (.i2l, 1) := by decide +kernel
theorem dX6_drift_2 : decode cX6_drift 2 = .ok (.lconst 1, 1) := by decide +kernel
theorem dX6_drift_3 : decode cX6_drift 3 = .ok (.ldc2_w 146, 3) := by decide +kernel
theorem dX6_drift_6 : decode cX6_drift 6 = .ok (.invokestatic 52, 3) := by decide +kernel
theorem dX6_drift_9 : decode cX6_drift 9 = .ok (.ifCond .ne 5, 3) := by decide +kernel
theorem dX6_drift_12 : decode cX6_drift 12 = .ok (.iconst (-1), 1) := by decide +kernel
theorem dX6_drift_13 : decode cX6_drift 13 = .ok (.ireturn, 1) := by decide +kernel
theorem dX6_drift_14 : decode cX6_drift 14 = .ok (.aload_n 0, 1) := by decide +kernel
theorem dX6_drift_15 : decode cX6_drift 15 = .ok (.getfield 7, 3) := by decide +kernel
theorem dX6_drift_18 : decode cX6_drift 18 = .ok (.iconst 3, 1) := by decide +kernel
theorem dX6_drift_19 : decode cX6_drift 19 = .ok (.iaload, 1) := by decide +kernel
theorem dX6_drift_20 : decode cX6_drift 20 = .ok (.iload_n 1, 1) := by decide +kernel
theorem dX6_drift_21 : decode cX6_drift 21 = .ok (.iadd, 1) := by decide +kernel
theorem dX6_drift_22 : decode cX6_drift 22 = .ok (.sipush 9999, 3) := by decide +kernel
theorem dX6_drift_25 : decode cX6_drift 25 = .ok (.if_icmp .le 6, 3) := by decide +kernel
theorem dX6_drift_28 : decode cX6_drift 28 = .ok (.bipush (-3), 2) := by decide +kernel
theorem dX6_drift_30 : decode cX6_drift 30 = .ok (.ireturn, 1) := by decide +kernel
theorem dX6_drift_31 : decode cX6_drift 31 = .ok (.iconst 0, 1) := by decide +kernel
theorem dX6_drift_32 : decode cX6_drift 32 = .ok (.istore_n 2, 1) := by decide +kernel
theorem dX6_drift_33 : decode cX6_drift 33 = .ok (.iload_n 2, 1) := by decide +kernel
theorem dX6_drift_34 : decode cX6_drift 34 = .ok (.iload_n 1, 1) := by decide +kernel
theorem dX6_drift_35 : decode cX6_drift 35 = .ok (.if_icmp .ge 76, 3) := by decide +kernel
theorem dX6_drift_38 : decode cX6_drift 38 = .ok (.aload_n 0, 1) := by decide +kernel
theorem dX6_drift_39 : decode cX6_drift 39 = .ok (.invokevirtual 148, 3) := by decide +kernel
theorem dX6_drift_42 : decode cX6_drift 42 = .ok (.aload_n 0, 1) := by decide +kernel
theorem dX6_drift_43 : decode cX6_drift 43 = .ok (.getfield 7, 3) := by decide +kernel
theorem dX6_drift_46 : decode cX6_drift 46 = .ok (.iconst 4, 1) := by decide +kernel
theorem dX6_drift_47 : decode cX6_drift 47 = .ok (.aload_n 0, 1) := by decide +kernel
theorem dX6_drift_48 : decode cX6_drift 48 = .ok (.getfield 7, 3) := by decide +kernel
theorem dX6_drift_51 : decode cX6_drift 51 = .ok (.iconst 4, 1) := by decide +kernel
theorem dX6_drift_52 : decode cX6_drift 52 = .ok (.iaload, 1) := by decide +kernel
theorem dX6_drift_53 : decode cX6_drift 53 = .ok (.i2l, 1) := by decide +kernel
theorem dX6_drift_54 : decode cX6_drift 54 = .ok (.ldc2_w 161, 3) := by decide +kernel
theorem dX6_drift_57 : decode cX6_drift 57 = .ok (.lmul, 1) := by decide +kernel
theorem dX6_drift_58 : decode cX6_drift 58 = .ok (.ldc2_w 163, 3) := by decide +kernel
theorem dX6_drift_61 : decode cX6_drift 61 = .ok (.ladd, 1) := by decide +kernel
theorem dX6_drift_62 : decode cX6_drift 62 = .ok (.ldc2_w 165, 3) := by decide +kernel
theorem dX6_drift_65 : decode cX6_drift 65 = .ok (.lrem, 1) := by decide +kernel
theorem dX6_drift_66 : decode cX6_drift 66 = .ok (.l2i, 1) := by decide +kernel
theorem dX6_drift_67 : decode cX6_drift 67 = .ok (.iastore, 1) := by decide +kernel
theorem dX6_drift_68 : decode cX6_drift 68 = .ok (.aload_n 0, 1) := by decide +kernel
theorem dX6_drift_69 : decode cX6_drift 69 = .ok (.getfield 7, 3) := by decide +kernel
theorem dX6_drift_72 : decode cX6_drift 72 = .ok (.iconst 4, 1) := by decide +kernel
theorem dX6_drift_73 : decode cX6_drift 73 = .ok (.iaload, 1) := by decide +kernel
theorem dX6_drift_74 : decode cX6_drift 74 = .ok (.ldc 167, 2) := by decide +kernel
theorem dX6_drift_76 : decode cX6_drift 76 = .ok (.idiv, 1) := by decide +kernel
theorem dX6_drift_77 : decode cX6_drift 77 = .ok (.iconst 4, 1) := by decide +kernel
theorem dX6_drift_78 : decode cX6_drift 78 = .ok (.irem, 1) := by decide +kernel
theorem dX6_drift_79 : decode cX6_drift 79 = .ok (.ifCond .ne 22, 3) := by decide +kernel
theorem dX6_drift_82 : decode cX6_drift 82 = .ok (.aload_n 0, 1) := by decide +kernel
theorem dX6_drift_83 : decode cX6_drift 83 = .ok (.iconst 1, 1) := by decide +kernel
theorem dX6_drift_84 : decode cX6_drift 84 = .ok (.aload_n 0, 1) := by decide +kernel
theorem dX6_drift_85 : decode cX6_drift 85 = .ok (.getfield 7, 3) := by decide +kernel
theorem dX6_drift_88 : decode cX6_drift 88 = .ok (.iconst 4, 1) := by decide +kernel
theorem dX6_drift_89 : decode cX6_drift 89 = .ok (.iaload, 1) := by decide +kernel
theorem dX6_drift_90 : decode cX6_drift 90 = .ok (.sipush 128, 3) := by decide +kernel
theorem dX6_drift_93 : decode cX6_drift 93 = .ok (.idiv, 1) := by decide +kernel
theorem dX6_drift_94 : decode cX6_drift 94 = .ok (.bipush 7, 2) := by decide +kernel
theorem dX6_drift_96 : decode cX6_drift 96 = .ok (.irem, 1) := by decide +kernel
theorem dX6_drift_97 : decode cX6_drift 97 = .ok (.iadd, 1) := by decide +kernel
theorem dX6_drift_98 : decode cX6_drift 98 = .ok (.invokevirtual 154, 3) := by decide +kernel
theorem dX6_drift_101 : decode cX6_drift 101 = .ok (.aload_n 0, 1) := by decide +kernel
theorem dX6_drift_102 : decode cX6_drift 102 = .ok (.invokevirtual 151, 3) := by decide +kernel
theorem dX6_drift_105 : decode cX6_drift 105 = .ok (.iinc 2 1, 3) := by decide +kernel
theorem dX6_drift_108 : decode cX6_drift 108 = .ok (.goto (-75), 3) := by decide +kernel
theorem dX6_drift_111 : decode cX6_drift 111 = .ok (.aload_n 0, 1) := by decide +kernel
theorem dX6_drift_112 : decode cX6_drift 112 = .ok (.invokevirtual 78, 3) := by decide +kernel
theorem dX6_drift_115 : decode cX6_drift 115 = .ok (.ireturn, 1) := by decide +kernel
theorem dX6_undo_0 : decode cX6_undo 0 = .ok (.aload_n 0, 1) := by decide +kernel
theorem dX6_undo_1 : decode cX6_undo 1 = .ok (.getfield 7, 3) := by decide +kernel
theorem dX6_undo_4 : decode cX6_undo 4 = .ok (.bipush 39, 2) := by decide +kernel
theorem dX6_undo_6 : decode cX6_undo 6 = .ok (.iaload, 1) := by decide +kernel
theorem dX6_undo_7 : decode cX6_undo 7 = .ok (.ifCond .ne 6, 3) := by decide +kernel
theorem dX6_undo_10 : decode cX6_undo 10 = .ok (.bipush (-4), 2) := by decide +kernel
theorem dX6_undo_12 : decode cX6_undo 12 = .ok (.ireturn, 1) := by decide +kernel
theorem dX6_undo_13 : decode cX6_undo 13 = .ok (.aload_n 0, 1) := by decide +kernel
theorem dX6_undo_14 : decode cX6_undo 14 = .ok (.getfield 7, 3) := by decide +kernel
theorem dX6_undo_17 : decode cX6_undo 17 = .ok (.bipush 39, 2) := by decide +kernel
theorem dX6_undo_19 : decode cX6_undo 19 = .ok (.dup2, 1) := by decide +kernel
theorem dX6_undo_20 : decode cX6_undo 20 = .ok (.iaload, 1) := by decide +kernel
theorem dX6_undo_21 : decode cX6_undo 21 = .ok (.iconst 1, 1) := by decide +kernel
theorem dX6_undo_22 : decode cX6_undo 22 = .ok (.isub, 1) := by decide +kernel
theorem dX6_undo_23 : decode cX6_undo 23 = .ok (.iastore, 1) := by decide +kernel
theorem dX6_undo_24 : decode cX6_undo 24 = .ok (.aload_n 0, 1) := by decide +kernel
theorem dX6_undo_25 : decode cX6_undo 25 = .ok (.bipush 40, 2) := by decide +kernel
theorem dX6_undo_27 : decode cX6_undo 27 = .ok (.bipush 10, 2) := by decide +kernel
theorem dX6_undo_29 : decode cX6_undo 29 = .ok (.aload_n 0, 1) := by decide +kernel
theorem dX6_undo_30 : decode cX6_undo 30 = .ok (.getfield 7, 3) := by decide +kernel
theorem dX6_undo_33 : decode cX6_undo 33 = .ok (.bipush 39, 2) := by decide +kernel
theorem dX6_undo_35 : decode cX6_undo 35 = .ok (.iaload, 1) := by decide +kernel
theorem dX6_undo_36 : decode cX6_undo 36 = .ok (.imul, 1) := by decide +kernel
theorem dX6_undo_37 : decode cX6_undo 37 = .ok (.iadd, 1) := by decide +kernel
theorem dX6_undo_38 : decode cX6_undo 38 = .ok (.iconst 3, 1) := by decide +kernel
theorem dX6_undo_39 : decode cX6_undo 39 = .ok (.bipush 10, 2) := by decide +kernel
theorem dX6_undo_41 : decode cX6_undo 41 = .ok (.invokevirtual 139, 3) := by decide +kernel
theorem dX6_undo_44 : decode cX6_undo 44 = .ok (.aload_n 0, 1) := by decide +kernel
theorem dX6_undo_45 : decode cX6_undo 45 = .ok (.getfield 7, 3) := by decide +kernel
theorem dX6_undo_48 : decode cX6_undo 48 = .ok (.bipush 39, 2) := by decide +kernel
theorem dX6_undo_50 : decode cX6_undo 50 = .ok (.iaload, 1) := by decide +kernel
theorem dX6_undo_51 : decode cX6_undo 51 = .ok (.ireturn, 1) := by decide +kernel
theorem dX6_seed_0 : decode cX6_seed 0 = .ok (.iload_n 1, 1) := by decide +kernel
theorem dX6_seed_1 : decode cX6_seed 1 = .ok (.ifCond .ge 5, 3) := by decide +kernel
theorem dX6_seed_4 : decode cX6_seed 4 = .ok (.iconst (-1), 1) := by decide +kernel
theorem dX6_seed_5 : decode cX6_seed 5 = .ok (.ireturn, 1) := by decide +kernel
theorem dX6_seed_6 : decode cX6_seed 6 = .ok (.aload_n 0, 1) := by decide +kernel
theorem dX6_seed_7 : decode cX6_seed 7 = .ok (.getfield 7, 3) := by decide +kernel
theorem dX6_seed_10 : decode cX6_seed 10 = .ok (.iconst 4, 1) := by decide +kernel
theorem dX6_seed_11 : decode cX6_seed 11 = .ok (.iaload, 1) := by decide +kernel
theorem dX6_seed_12 : decode cX6_seed 12 = .ok (.istore_n 2, 1) := by decide +kernel
theorem dX6_seed_13 : decode cX6_seed 13 = .ok (.aload_n 0, 1) := by decide +kernel
theorem dX6_seed_14 : decode cX6_seed 14 = .ok (.getfield 7, 3) := by decide +kernel
theorem dX6_seed_17 : decode cX6_seed 17 = .ok (.iconst 4, 1) := by decide +kernel
theorem dX6_seed_18 : decode cX6_seed 18 = .ok (.iload_n 1, 1) := by decide +kernel
theorem dX6_seed_19 : decode cX6_seed 19 = .ok (.iastore, 1) := by decide +kernel
theorem dX6_seed_20 : decode cX6_seed 20 = .ok (.iload_n 2, 1) := by decide +kernel
theorem dX6_seed_21 : decode cX6_seed 21 = .ok (.ireturn, 1) := by decide +kernel
theorem dX6_goesBy_0 : decode cX6_goesBy 0 = .ok (.iload_n 1, 1) := by decide +kernel
theorem dX6_goesBy_1 : decode cX6_goesBy 1 = .ok (.istore_n 3, 1) := by decide +kernel
theorem dX6_goesBy_2 : decode cX6_goesBy 2 = .ok (.iconst 0, 1) := by decide +kernel
theorem dX6_goesBy_3 : decode cX6_goesBy 3 = .ok (.istore 4, 2) := by decide +kernel
theorem dX6_goesBy_5 : decode cX6_goesBy 5 = .ok (.iload 4, 2) := by decide +kernel
theorem dX6_goesBy_7 : decode cX6_goesBy 7 = .ok (.iload_n 2, 1) := by decide +kernel
theorem dX6_goesBy_8 : decode cX6_goesBy 8 = .ok (.if_icmp .ge 39, 3) := by decide +kernel
theorem dX6_goesBy_11 : decode cX6_goesBy 11 = .ok (.aload_n 0, 1) := by decide +kernel
theorem dX6_goesBy_12 : decode cX6_goesBy 12 = .ok (.aload_n 0, 1) := by decide +kernel
theorem dX6_goesBy_13 : decode cX6_goesBy 13 = .ok (.getfield 7, 3) := by decide +kernel
theorem dX6_goesBy_16 : decode cX6_goesBy 16 = .ok (.bipush 23, 2) := by decide +kernel
theorem dX6_goesBy_18 : decode cX6_goesBy 18 = .ok (.aload_n 0, 1) := by decide +kernel
theorem dX6_goesBy_19 : decode cX6_goesBy 19 = .ok (.getfield 7, 3) := by decide +kernel
theorem dX6_goesBy_22 : decode cX6_goesBy 22 = .ok (.iconst 3, 1) := by decide +kernel
theorem dX6_goesBy_23 : decode cX6_goesBy 23 = .ok (.iaload, 1) := by decide +kernel
theorem dX6_goesBy_24 : decode cX6_goesBy 24 = .ok (.iload 4, 2) := by decide +kernel
theorem dX6_goesBy_26 : decode cX6_goesBy 26 = .ok (.iadd, 1) := by decide +kernel
theorem dX6_goesBy_27 : decode cX6_goesBy 27 = .ok (.aload_n 0, 1) := by decide +kernel
theorem dX6_goesBy_28 : decode cX6_goesBy 28 = .ok (.getfield 7, 3) := by decide +kernel
theorem dX6_goesBy_31 : decode cX6_goesBy 31 = .ok (.iconst 2, 1) := by decide +kernel
theorem dX6_goesBy_32 : decode cX6_goesBy 32 = .ok (.iaload, 1) := by decide +kernel
theorem dX6_goesBy_33 : decode cX6_goesBy 33 = .ok (.irem, 1) := by decide +kernel
theorem dX6_goesBy_34 : decode cX6_goesBy 34 = .ok (.iadd, 1) := by decide +kernel
theorem dX6_goesBy_35 : decode cX6_goesBy 35 = .ok (.iaload, 1) := by decide +kernel
theorem dX6_goesBy_36 : decode cX6_goesBy 36 = .ok (.iload_n 3, 1) := by decide +kernel
theorem dX6_goesBy_37 : decode cX6_goesBy 37 = .ok (.invokevirtual 67, 3) := by decide +kernel
theorem dX6_goesBy_40 : decode cX6_goesBy 40 = .ok (.istore_n 3, 1) := by decide +kernel
theorem dX6_goesBy_41 : decode cX6_goesBy 41 = .ok (.iinc 4 1, 3) := by decide +kernel
theorem dX6_goesBy_44 : decode cX6_goesBy 44 = .ok (.goto (-39), 3) := by decide +kernel
theorem dX6_goesBy_47 : decode cX6_goesBy 47 = .ok (.iload_n 3, 1) := by decide +kernel
theorem dX6_goesBy_48 : decode cX6_goesBy 48 = .ok (.ireturn, 1) := by decide +kernel
theorem dX6_ringOf_0 : decode cX6_ringOf 0 = .ok (.iconst 1, 1) := by decide +kernel
theorem dX6_ringOf_1 : decode cX6_ringOf 1 = .ok (.istore_n 2, 1) := by decide +kernel
theorem dX6_ringOf_2 : decode cX6_ringOf 2 = .ok (.aload_n 0, 1) := by decide +kernel
theorem dX6_ringOf_3 : decode cX6_ringOf 3 = .ok (.iload_n 1, 1) := by decide +kernel
theorem dX6_ringOf_4 : decode cX6_ringOf 4 = .ok (.aload_n 0, 1) := by decide +kernel
theorem dX6_ringOf_5 : decode cX6_ringOf 5 = .ok (.getfield 7, 3) := by decide +kernel
theorem dX6_ringOf_8 : decode cX6_ringOf 8 = .ok (.iconst 2, 1) := by decide +kernel
theorem dX6_ringOf_9 : decode cX6_ringOf 9 = .ok (.iaload, 1) := by decide +kernel
theorem dX6_ringOf_10 : decode cX6_ringOf 10 = .ok (.invokevirtual 168, 3) := by decide +kernel
theorem dX6_ringOf_13 : decode cX6_ringOf 13 = .ok (.istore_n 3, 1) := by decide +kernel
theorem dX6_ringOf_14 : decode cX6_ringOf 14 = .ok (.iload_n 3, 1) := by decide +kernel
theorem dX6_ringOf_15 : decode cX6_ringOf 15 = .ok (.iload_n 1, 1) := by decide +kernel
theorem dX6_ringOf_16 : decode cX6_ringOf 16 = .ok (.if_icmp .eq 21, 3) := by decide +kernel
theorem dX6_ringOf_19 : decode cX6_ringOf 19 = .ok (.aload_n 0, 1) := by decide +kernel
theorem dX6_ringOf_20 : decode cX6_ringOf 20 = .ok (.iload_n 3, 1) := by decide +kernel
theorem dX6_ringOf_21 : decode cX6_ringOf 21 = .ok (.aload_n 0, 1) := by decide +kernel
theorem dX6_ringOf_22 : decode cX6_ringOf 22 = .ok (.getfield 7, 3) := by decide +kernel
theorem dX6_ringOf_25 : decode cX6_ringOf 25 = .ok (.iconst 2, 1) := by decide +kernel
theorem dX6_ringOf_26 : decode cX6_ringOf 26 = .ok (.iaload, 1) := by decide +kernel
theorem dX6_ringOf_27 : decode cX6_ringOf 27 = .ok (.invokevirtual 168, 3) := by decide +kernel
theorem dX6_ringOf_30 : decode cX6_ringOf 30 = .ok (.istore_n 3, 1) := by decide +kernel
theorem dX6_ringOf_31 : decode cX6_ringOf 31 = .ok (.iinc 2 1, 3) := by decide +kernel
theorem dX6_ringOf_34 : decode cX6_ringOf 34 = .ok (.goto (-20), 3) := by decide +kernel
theorem dX6_ringOf_37 : decode cX6_ringOf 37 = .ok (.iload_n 2, 1) := by decide +kernel
theorem dX6_ringOf_38 : decode cX6_ringOf 38 = .ok (.ireturn, 1) := by decide +kernel
theorem dX6_behind_0 : decode cX6_behind 0 = .ok (.iload_n 1, 1) := by decide +kernel
theorem dX6_behind_1 : decode cX6_behind 1 = .ok (.bipush (-4), 2) := by decide +kernel
theorem dX6_behind_3 : decode cX6_behind 3 = .ok (.if_icmp .eq 12, 3) := by decide +kernel
theorem dX6_behind_6 : decode cX6_behind 6 = .ok (.aload_n 0, 1) := by decide +kernel
theorem dX6_behind_7 : decode cX6_behind 7 = .ok (.getfield 7, 3) := by decide +kernel
theorem dX6_behind_10 : decode cX6_behind 10 = .ok (.iconst 2, 1) := by decide +kernel
theorem dX6_behind_11 : decode cX6_behind 11 = .ok (.iaload, 1) := by decide +kernel
theorem dX6_behind_12 : decode cX6_behind 12 = .ok (.ifCond .ne 5, 3) := by decide +kernel
theorem dX6_behind_15 : decode cX6_behind 15 = .ok (.iload_n 1, 1) := by decide +kernel
theorem dX6_behind_16 : decode cX6_behind 16 = .ok (.ireturn, 1) := by decide +kernel
theorem dX6_behind_17 : decode cX6_behind 17 = .ok (.iload_n 1, 1) := by decide +kernel
theorem dX6_behind_18 : decode cX6_behind 18 = .ok (.istore_n 3, 1) := by decide +kernel
theorem dX6_behind_19 : decode cX6_behind 19 = .ok (.iload_n 2, 1) := by decide +kernel
theorem dX6_behind_20 : decode cX6_behind 20 = .ok (.aload_n 0, 1) := by decide +kernel
theorem dX6_behind_21 : decode cX6_behind 21 = .ok (.getfield 7, 3) := by decide +kernel
theorem dX6_behind_24 : decode cX6_behind 24 = .ok (.iconst 2, 1) := by decide +kernel
theorem dX6_behind_25 : decode cX6_behind 25 = .ok (.iaload, 1) := by decide +kernel
theorem dX6_behind_26 : decode cX6_behind 26 = .ok (.idiv, 1) := by decide +kernel
theorem dX6_behind_27 : decode cX6_behind 27 = .ok (.aload_n 0, 1) := by decide +kernel
theorem dX6_behind_28 : decode cX6_behind 28 = .ok (.iload_n 1, 1) := by decide +kernel
theorem dX6_behind_29 : decode cX6_behind 29 = .ok (.invokevirtual 171, 3) := by decide +kernel
theorem dX6_behind_32 : decode cX6_behind 32 = .ok (.irem, 1) := by decide +kernel
theorem dX6_behind_33 : decode cX6_behind 33 = .ok (.istore 4, 2) := by decide +kernel
theorem dX6_behind_35 : decode cX6_behind 35 = .ok (.iconst 0, 1) := by decide +kernel
theorem dX6_behind_36 : decode cX6_behind 36 = .ok (.istore 5, 2) := by decide +kernel
theorem dX6_behind_38 : decode cX6_behind 38 = .ok (.iload 5, 2) := by decide +kernel
theorem dX6_behind_40 : decode cX6_behind 40 = .ok (.iload 4, 2) := by decide +kernel
theorem dX6_behind_42 : decode cX6_behind 42 = .ok (.if_icmp .ge 21, 3) := by decide +kernel
theorem dX6_behind_45 : decode cX6_behind 45 = .ok (.aload_n 0, 1) := by decide +kernel
theorem dX6_behind_46 : decode cX6_behind 46 = .ok (.iload_n 3, 1) := by decide +kernel
theorem dX6_behind_47 : decode cX6_behind 47 = .ok (.aload_n 0, 1) := by decide +kernel
theorem dX6_behind_48 : decode cX6_behind 48 = .ok (.getfield 7, 3) := by decide +kernel
theorem dX6_behind_51 : decode cX6_behind 51 = .ok (.iconst 2, 1) := by decide +kernel
theorem dX6_behind_52 : decode cX6_behind 52 = .ok (.iaload, 1) := by decide +kernel
theorem dX6_behind_53 : decode cX6_behind 53 = .ok (.invokevirtual 168, 3) := by decide +kernel
theorem dX6_behind_56 : decode cX6_behind 56 = .ok (.istore_n 3, 1) := by decide +kernel
theorem dX6_behind_57 : decode cX6_behind 57 = .ok (.iinc 5 1, 3) := by decide +kernel
theorem dX6_behind_60 : decode cX6_behind 60 = .ok (.goto (-22), 3) := by decide +kernel
theorem dX6_behind_63 : decode cX6_behind 63 = .ok (.aload_n 0, 1) := by decide +kernel
theorem dX6_behind_64 : decode cX6_behind 64 = .ok (.iload_n 3, 1) := by decide +kernel
theorem dX6_behind_65 : decode cX6_behind 65 = .ok (.iload_n 2, 1) := by decide +kernel
theorem dX6_behind_66 : decode cX6_behind 66 = .ok (.aload_n 0, 1) := by decide +kernel
theorem dX6_behind_67 : decode cX6_behind 67 = .ok (.getfield 7, 3) := by decide +kernel
theorem dX6_behind_70 : decode cX6_behind 70 = .ok (.iconst 2, 1) := by decide +kernel
theorem dX6_behind_71 : decode cX6_behind 71 = .ok (.iaload, 1) := by decide +kernel
theorem dX6_behind_72 : decode cX6_behind 72 = .ok (.irem, 1) := by decide +kernel
theorem dX6_behind_73 : decode cX6_behind 73 = .ok (.invokevirtual 168, 3) := by decide +kernel
theorem dX6_behind_76 : decode cX6_behind 76 = .ok (.ireturn, 1) := by decide +kernel
theorem dX6_isTime_0 : decode cX6_isTime 0 = .ok (.iload_n 0, 1) := by decide +kernel
theorem dX6_isTime_1 : decode cX6_isTime 1 = .ok (.i2l, 1) := by decide +kernel
theorem dX6_isTime_2 : decode cX6_isTime 2 = .ok (.lconst 0, 1) := by decide +kernel
theorem dX6_isTime_3 : decode cX6_isTime 3 = .ok (.ldc2_w 174, 3) := by decide +kernel
theorem dX6_isTime_6 : decode cX6_isTime 6 = .ok (.invokestatic 52, 3) := by decide +kernel
theorem dX6_isTime_9 : decode cX6_isTime 9 = .ok (.ireturn, 1) := by decide +kernel
theorem dX6_ahead_0 : decode cX6_ahead 0 = .ok (.aload_n 0, 1) := by decide +kernel
theorem dX6_ahead_1 : decode cX6_ahead 1 = .ok (.iload_n 1, 1) := by decide +kernel
theorem dX6_ahead_2 : decode cX6_ahead 2 = .ok (.invokevirtual 100, 3) := by decide +kernel
theorem dX6_ahead_5 : decode cX6_ahead 5 = .ok (.ifCond .eq 26, 3) := by decide +kernel
theorem dX6_ahead_8 : decode cX6_ahead 8 = .ok (.iload_n 2, 1) := by decide +kernel
theorem dX6_ahead_9 : decode cX6_ahead 9 = .ok (.invokestatic 176, 3) := by decide +kernel
theorem dX6_ahead_12 : decode cX6_ahead 12 = .ok (.ifCond .eq 19, 3) := by decide +kernel
theorem dX6_ahead_15 : decode cX6_ahead 15 = .ok (.aload_n 0, 1) := by decide +kernel
theorem dX6_ahead_16 : decode cX6_ahead 16 = .ok (.aload_n 0, 1) := by decide +kernel
theorem dX6_ahead_17 : decode cX6_ahead 17 = .ok (.getfield 7, 3) := by decide +kernel
theorem dX6_ahead_20 : decode cX6_ahead 20 = .ok (.iconst 5, 1) := by decide +kernel
theorem dX6_ahead_21 : decode cX6_ahead 21 = .ok (.iload_n 1, 1) := by decide +kernel
theorem dX6_ahead_22 : decode cX6_ahead 22 = .ok (.iadd, 1) := by decide +kernel
theorem dX6_ahead_23 : decode cX6_ahead 23 = .ok (.iaload, 1) := by decide +kernel
theorem dX6_ahead_24 : decode cX6_ahead 24 = .ok (.iload_n 2, 1) := by decide +kernel
theorem dX6_ahead_25 : decode cX6_ahead 25 = .ok (.invokevirtual 179, 3) := by decide +kernel
theorem dX6_ahead_28 : decode cX6_ahead 28 = .ok (.goto 4, 3) := by decide +kernel
theorem dX6_ahead_31 : decode cX6_ahead 31 = .ok (.iconst (-1), 1) := by decide +kernel
theorem dX6_ahead_32 : decode cX6_ahead 32 = .ok (.ireturn, 1) := by decide +kernel
theorem dX6_then_0 : decode cX6_then 0 = .ok (.iload_n 1, 1) := by decide +kernel
theorem dX6_then_1 : decode cX6_then 1 = .ok (.invokestatic 74, 3) := by decide +kernel
theorem dX6_then_4 : decode cX6_then 4 = .ok (.ifCond .eq 20, 3) := by decide +kernel
theorem dX6_then_7 : decode cX6_then 7 = .ok (.iload_n 2, 1) := by decide +kernel
theorem dX6_then_8 : decode cX6_then 8 = .ok (.invokestatic 176, 3) := by decide +kernel
theorem dX6_then_11 : decode cX6_then 11 = .ok (.ifCond .eq 13, 3) := by decide +kernel
theorem dX6_then_14 : decode cX6_then 14 = .ok (.iload_n 3, 1) := by decide +kernel
theorem dX6_then_15 : decode cX6_then 15 = .ok (.i2l, 1) := by decide +kernel
theorem dX6_then_16 : decode cX6_then 16 = .ok (.lconst 0, 1) := by decide +kernel
theorem dX6_then_17 : decode cX6_then 17 = .ok (.lconst 1, 1) := by decide +kernel
theorem dX6_then_18 : decode cX6_then 18 = .ok (.invokestatic 52, 3) := by decide +kernel
theorem dX6_then_21 : decode cX6_then 21 = .ok (.ifCond .ne 5, 3) := by decide +kernel
theorem dX6_then_24 : decode cX6_then 24 = .ok (.iconst (-1), 1) := by decide +kernel
theorem dX6_then_25 : decode cX6_then 25 = .ok (.ireturn, 1) := by decide +kernel
theorem dX6_then_26 : decode cX6_then 26 = .ok (.bipush (-4), 2) := by decide +kernel
theorem dX6_then_28 : decode cX6_then 28 = .ok (.istore 4, 2) := by decide +kernel
theorem dX6_then_30 : decode cX6_then 30 = .ok (.iconst 0, 1) := by decide +kernel
theorem dX6_then_31 : decode cX6_then 31 = .ok (.istore 5, 2) := by decide +kernel
theorem dX6_then_33 : decode cX6_then 33 = .ok (.iconst 0, 1) := by decide +kernel
theorem dX6_then_34 : decode cX6_then 34 = .ok (.istore 6, 2) := by decide +kernel
theorem dX6_then_36 : decode cX6_then 36 = .ok (.iload 6, 2) := by decide +kernel
theorem dX6_then_38 : decode cX6_then 38 = .ok (.aload_n 0, 1) := by decide +kernel
theorem dX6_then_39 : decode cX6_then 39 = .ok (.getfield 7, 3) := by decide +kernel
theorem dX6_then_42 : decode cX6_then 42 = .ok (.iconst 0, 1) := by decide +kernel
theorem dX6_then_43 : decode cX6_then 43 = .ok (.iaload, 1) := by decide +kernel
theorem dX6_then_44 : decode cX6_then 44 = .ok (.if_icmp .ge 60, 3) := by decide +kernel
theorem dX6_then_47 : decode cX6_then 47 = .ok (.aload_n 0, 1) := by decide +kernel
theorem dX6_then_48 : decode cX6_then 48 = .ok (.aload_n 0, 1) := by decide +kernel
theorem dX6_then_49 : decode cX6_then 49 = .ok (.getfield 7, 3) := by decide +kernel
theorem dX6_then_52 : decode cX6_then 52 = .ok (.iconst 5, 1) := by decide +kernel
theorem dX6_then_53 : decode cX6_then 53 = .ok (.iload 6, 2) := by decide +kernel
theorem dX6_then_55 : decode cX6_then 55 = .ok (.iadd, 1) := by decide +kernel
theorem dX6_then_56 : decode cX6_then 56 = .ok (.iaload, 1) := by decide +kernel
theorem dX6_then_57 : decode cX6_then 57 = .ok (.iload_n 2, 1) := by decide +kernel
theorem dX6_then_58 : decode cX6_then 58 = .ok (.invokevirtual 179, 3) := by decide +kernel
theorem dX6_then_61 : decode cX6_then 61 = .ok (.istore 7, 2) := by decide +kernel
theorem dX6_then_63 : decode cX6_then 63 = .ok (.iload 7, 2) := by decide +kernel
theorem dX6_then_65 : decode cX6_then 65 = .ok (.iload_n 1, 1) := by decide +kernel
theorem dX6_then_66 : decode cX6_then 66 = .ok (.if_icmp .ne 8, 3) := by decide +kernel
theorem dX6_then_69 : decode cX6_then 69 = .ok (.iload 6, 2) := by decide +kernel
theorem dX6_then_71 : decode cX6_then 71 = .ok (.goto 5, 3) := by decide +kernel
theorem dX6_then_74 : decode cX6_then 74 = .ok (.iload 4, 2) := by decide +kernel
theorem dX6_then_76 : decode cX6_then 76 = .ok (.istore 4, 2) := by decide +kernel
theorem dX6_then_78 : decode cX6_then 78 = .ok (.iload 5, 2) := by decide +kernel
theorem dX6_then_80 : decode cX6_then 80 = .ok (.iload 7, 2) := by decide +kernel
theorem dX6_then_82 : decode cX6_then 82 = .ok (.bipush (-4), 2) := by decide +kernel
theorem dX6_then_84 : decode cX6_then 84 = .ok (.if_icmp .ne 7, 3) := by decide +kernel
theorem dX6_then_87 : decode cX6_then 87 = .ok (.iconst 0, 1) := by decide +kernel
theorem dX6_then_88 : decode cX6_then 88 = .ok (.goto 7, 3) := by decide +kernel
theorem dX6_then_91 : decode cX6_then 91 = .ok (.iconst 1, 1) := by decide +kernel
theorem dX6_then_92 : decode cX6_then 92 = .ok (.iload 7, 2) := by decide +kernel
theorem dX6_then_94 : decode cX6_then 94 = .ok (.ishl, 1) := by decide +kernel
theorem dX6_then_95 : decode cX6_then 95 = .ok (.ior, 1) := by decide +kernel
theorem dX6_then_96 : decode cX6_then 96 = .ok (.istore 5, 2) := by decide +kernel
theorem dX6_then_98 : decode cX6_then 98 = .ok (.iinc 6 1, 3) := by decide +kernel
theorem dX6_then_101 : decode cX6_then 101 = .ok (.goto (-65), 3) := by decide +kernel
theorem dX6_then_104 : decode cX6_then 104 = .ok (.iload_n 3, 1) := by decide +kernel
theorem dX6_then_105 : decode cX6_then 105 = .ok (.ifCond .ne 8, 3) := by decide +kernel
theorem dX6_then_108 : decode cX6_then 108 = .ok (.iload 4, 2) := by decide +kernel
theorem dX6_then_110 : decode cX6_then 110 = .ok (.goto 9, 3) := by decide +kernel
theorem dX6_then_113 : decode cX6_then 113 = .ok (.iload 5, 2) := by decide +kernel
theorem dX6_then_115 : decode cX6_then 115 = .ok (.iload_n 1, 1) := by decide +kernel
theorem dX6_then_116 : decode cX6_then 116 = .ok (.invokestatic 103, 3) := by decide +kernel
theorem dX6_then_119 : decode cX6_then 119 = .ok (.ireturn, 1) := by decide +kernel
theorem dX6_back_0 : decode cX6_back 0 = .ok (.iload_n 1, 1) := by decide +kernel
theorem dX6_back_1 : decode cX6_back 1 = .ok (.iconst (-1), 1) := by decide +kernel
theorem dX6_back_2 : decode cX6_back 2 = .ok (.if_icmp .eq 13, 3) := by decide +kernel
theorem dX6_back_5 : decode cX6_back 5 = .ok (.aload_n 0, 1) := by decide +kernel
theorem dX6_back_6 : decode cX6_back 6 = .ok (.iload_n 1, 1) := by decide +kernel
theorem dX6_back_7 : decode cX6_back 7 = .ok (.invokevirtual 100, 3) := by decide +kernel
theorem dX6_back_10 : decode cX6_back 10 = .ok (.ifCond .ne 5, 3) := by decide +kernel
theorem dX6_back_13 : decode cX6_back 13 = .ok (.iconst (-1), 1) := by decide +kernel
theorem dX6_back_14 : decode cX6_back 14 = .ok (.ireturn, 1) := by decide +kernel
theorem dX6_back_15 : decode cX6_back 15 = .ok (.aload_n 0, 1) := by decide +kernel
theorem dX6_back_16 : decode cX6_back 16 = .ok (.getfield 7, 3) := by decide +kernel
theorem dX6_back_19 : decode cX6_back 19 = .ok (.iconst 2, 1) := by decide +kernel
theorem dX6_back_20 : decode cX6_back 20 = .ok (.iaload, 1) := by decide +kernel
theorem dX6_back_21 : decode cX6_back 21 = .ok (.ifCond .ne 5, 3) := by decide +kernel
theorem dX6_back_24 : decode cX6_back 24 = .ok (.iconst 0, 1) := by decide +kernel
theorem dX6_back_25 : decode cX6_back 25 = .ok (.ireturn, 1) := by decide +kernel
theorem dX6_back_26 : decode cX6_back 26 = .ok (.iconst 0, 1) := by decide +kernel
theorem dX6_back_27 : decode cX6_back 27 = .ok (.istore_n 2, 1) := by decide +kernel
theorem dX6_back_28 : decode cX6_back 28 = .ok (.iconst 0, 1) := by decide +kernel
theorem dX6_back_29 : decode cX6_back 29 = .ok (.istore_n 3, 1) := by decide +kernel
theorem dX6_back_30 : decode cX6_back 30 = .ok (.iload_n 3, 1) := by decide +kernel
theorem dX6_back_31 : decode cX6_back 31 = .ok (.ifCond .ne 96, 3) := by decide +kernel
theorem dX6_back_34 : decode cX6_back 34 = .ok (.iinc 2 1, 3) := by decide +kernel
theorem dX6_back_37 : decode cX6_back 37 = .ok (.iconst 1, 1) := by decide +kernel
theorem dX6_back_38 : decode cX6_back 38 = .ok (.istore_n 3, 1) := by decide +kernel
theorem dX6_back_39 : decode cX6_back 39 = .ok (.iconst 0, 1) := by decide +kernel
theorem dX6_back_40 : decode cX6_back 40 = .ok (.istore 4, 2) := by decide +kernel
theorem dX6_back_42 : decode cX6_back 42 = .ok (.iload 4, 2) := by decide +kernel
theorem dX6_back_44 : decode cX6_back 44 = .ok (.aload_n 0, 1) := by decide +kernel
theorem dX6_back_45 : decode cX6_back 45 = .ok (.getfield 7, 3) := by decide +kernel
theorem dX6_back_48 : decode cX6_back 48 = .ok (.iconst 0, 1) := by decide +kernel
theorem dX6_back_49 : decode cX6_back 49 = .ok (.iaload, 1) := by decide +kernel
theorem dX6_back_50 : decode cX6_back 50 = .ok (.if_icmp .ge 74, 3) := by decide +kernel
theorem dX6_back_53 : decode cX6_back 53 = .ok (.aload_n 0, 1) := by decide +kernel
theorem dX6_back_54 : decode cX6_back 54 = .ok (.getfield 7, 3) := by decide +kernel
theorem dX6_back_57 : decode cX6_back 57 = .ok (.iconst 5, 1) := by decide +kernel
theorem dX6_back_58 : decode cX6_back 58 = .ok (.iload 4, 2) := by decide +kernel
theorem dX6_back_60 : decode cX6_back 60 = .ok (.iadd, 1) := by decide +kernel
theorem dX6_back_61 : decode cX6_back 61 = .ok (.iaload, 1) := by decide +kernel
theorem dX6_back_62 : decode cX6_back 62 = .ok (.bipush (-4), 2) := by decide +kernel
theorem dX6_back_64 : decode cX6_back 64 = .ok (.if_icmp .eq 18, 3) := by decide +kernel
theorem dX6_back_67 : decode cX6_back 67 = .ok (.iload_n 1, 1) := by decide +kernel
theorem dX6_back_68 : decode cX6_back 68 = .ok (.iconst (-1), 1) := by decide +kernel
theorem dX6_back_69 : decode cX6_back 69 = .ok (.if_icmp .eq 9, 3) := by decide +kernel
theorem dX6_back_72 : decode cX6_back 72 = .ok (.iload 4, 2) := by decide +kernel
theorem dX6_back_74 : decode cX6_back 74 = .ok (.iload_n 1, 1) := by decide +kernel
theorem dX6_back_75 : decode cX6_back 75 = .ok (.if_icmp .ne 7, 3) := by decide +kernel
theorem dX6_back_78 : decode cX6_back 78 = .ok (.iconst 1, 1) := by decide +kernel
theorem dX6_back_79 : decode cX6_back 79 = .ok (.goto 4, 3) := by decide +kernel
theorem dX6_back_82 : decode cX6_back 82 = .ok (.iconst 0, 1) := by decide +kernel
theorem dX6_back_83 : decode cX6_back 83 = .ok (.istore 5, 2) := by decide +kernel
theorem dX6_back_85 : decode cX6_back 85 = .ok (.iload_n 3, 1) := by decide +kernel
theorem dX6_back_86 : decode cX6_back 86 = .ok (.ifCond .eq 30, 3) := by decide +kernel
theorem dX6_back_89 : decode cX6_back 89 = .ok (.iload 5, 2) := by decide +kernel
theorem dX6_back_91 : decode cX6_back 91 = .ok (.ifCond .eq 21, 3) := by decide +kernel
theorem dX6_back_94 : decode cX6_back 94 = .ok (.iload_n 2, 1) := by decide +kernel
theorem dX6_back_95 : decode cX6_back 95 = .ok (.aload_n 0, 1) := by decide +kernel
theorem dX6_back_96 : decode cX6_back 96 = .ok (.aload_n 0, 1) := by decide +kernel
theorem dX6_back_97 : decode cX6_back 97 = .ok (.getfield 7, 3) := by decide +kernel
theorem dX6_back_100 : decode cX6_back 100 = .ok (.iconst 5, 1) := by decide +kernel
theorem dX6_back_101 : decode cX6_back 101 = .ok (.iload 4, 2) := by decide +kernel
theorem dX6_back_103 : decode cX6_back 103 = .ok (.iadd, 1) := by decide +kernel
theorem dX6_back_104 : decode cX6_back 104 = .ok (.iaload, 1) := by decide +kernel
theorem dX6_back_105 : decode cX6_back 105 = .ok (.invokevirtual 171, 3) := by decide +kernel
theorem dX6_back_108 : decode cX6_back 108 = .ok (.irem, 1) := by decide +kernel
theorem dX6_back_109 : decode cX6_back 109 = .ok (.ifCond .ne 7, 3) := by decide +kernel
theorem dX6_back_112 : decode cX6_back 112 = .ok (.iconst 1, 1) := by decide +kernel
theorem dX6_back_113 : decode cX6_back 113 = .ok (.goto 4, 3) := by decide +kernel
theorem dX6_back_116 : decode cX6_back 116 = .ok (.iconst 0, 1) := by decide +kernel
theorem dX6_back_117 : decode cX6_back 117 = .ok (.istore_n 3, 1) := by decide +kernel
theorem dX6_back_118 : decode cX6_back 118 = .ok (.iinc 4 1, 3) := by decide +kernel
theorem dX6_back_121 : decode cX6_back 121 = .ok (.goto (-79), 3) := by decide +kernel
theorem dX6_back_124 : decode cX6_back 124 = .ok (.goto (-94), 3) := by decide +kernel
theorem dX6_back_127 : decode cX6_back 127 = .ok (.iload_n 2, 1) := by decide +kernel
theorem dX6_back_128 : decode cX6_back 128 = .ok (.aload_n 0, 1) := by decide +kernel
theorem dX6_back_129 : decode cX6_back 129 = .ok (.getfield 7, 3) := by decide +kernel
theorem dX6_back_132 : decode cX6_back 132 = .ok (.iconst 2, 1) := by decide +kernel
theorem dX6_back_133 : decode cX6_back 133 = .ok (.iaload, 1) := by decide +kernel
theorem dX6_back_134 : decode cX6_back 134 = .ok (.imul, 1) := by decide +kernel
theorem dX6_back_135 : decode cX6_back 135 = .ok (.ireturn, 1) := by decide +kernel
theorem dX6_been_0 : decode cX6_been 0 = .ok (.aload_n 0, 1) := by decide +kernel
theorem dX6_been_1 : decode cX6_been 1 = .ok (.iload_n 1, 1) := by decide +kernel
theorem dX6_been_2 : decode cX6_been 2 = .ok (.invokevirtual 100, 3) := by decide +kernel
theorem dX6_been_5 : decode cX6_been 5 = .ok (.ifCond .ne 5, 3) := by decide +kernel
theorem dX6_been_8 : decode cX6_been 8 = .ok (.iconst (-1), 1) := by decide +kernel
theorem dX6_been_9 : decode cX6_been 9 = .ok (.ireturn, 1) := by decide +kernel
theorem dX6_been_10 : decode cX6_been 10 = .ok (.aload_n 0, 1) := by decide +kernel
theorem dX6_been_11 : decode cX6_been 11 = .ok (.getfield 7, 3) := by decide +kernel
theorem dX6_been_14 : decode cX6_been 14 = .ok (.iconst 5, 1) := by decide +kernel
theorem dX6_been_15 : decode cX6_been 15 = .ok (.iload_n 1, 1) := by decide +kernel
theorem dX6_been_16 : decode cX6_been 16 = .ok (.iadd, 1) := by decide +kernel
theorem dX6_been_17 : decode cX6_been 17 = .ok (.iaload, 1) := by decide +kernel
theorem dX6_been_18 : decode cX6_been 18 = .ok (.istore_n 2, 1) := by decide +kernel
theorem dX6_been_19 : decode cX6_been 19 = .ok (.iload_n 2, 1) := by decide +kernel
theorem dX6_been_20 : decode cX6_been 20 = .ok (.bipush (-4), 2) := by decide +kernel
theorem dX6_been_22 : decode cX6_been 22 = .ok (.if_icmp .ne 5, 3) := by decide +kernel
theorem dX6_been_25 : decode cX6_been 25 = .ok (.iconst 0, 1) := by decide +kernel
theorem dX6_been_26 : decode cX6_been 26 = .ok (.ireturn, 1) := by decide +kernel
theorem dX6_been_27 : decode cX6_been 27 = .ok (.iconst 1, 1) := by decide +kernel
theorem dX6_been_28 : decode cX6_been 28 = .ok (.iload_n 2, 1) := by decide +kernel
theorem dX6_been_29 : decode cX6_been 29 = .ok (.ishl, 1) := by decide +kernel
theorem dX6_been_30 : decode cX6_been 30 = .ok (.istore_n 3, 1) := by decide +kernel
theorem dX6_been_31 : decode cX6_been 31 = .ok (.aload_n 0, 1) := by decide +kernel
theorem dX6_been_32 : decode cX6_been 32 = .ok (.getfield 7, 3) := by decide +kernel
theorem dX6_been_35 : decode cX6_been 35 = .ok (.iconst 2, 1) := by decide +kernel
theorem dX6_been_36 : decode cX6_been 36 = .ok (.iaload, 1) := by decide +kernel
theorem dX6_been_37 : decode cX6_been 37 = .ok (.ifCond .ne 7, 3) := by decide +kernel
theorem dX6_been_40 : decode cX6_been 40 = .ok (.iconst 0, 1) := by decide +kernel
theorem dX6_been_41 : decode cX6_been 41 = .ok (.goto 15, 3) := by decide +kernel
theorem dX6_been_44 : decode cX6_been 44 = .ok (.aload_n 0, 1) := by decide +kernel
theorem dX6_been_45 : decode cX6_been 45 = .ok (.iload_n 2, 1) := by decide +kernel
theorem dX6_been_46 : decode cX6_been 46 = .ok (.invokevirtual 171, 3) := by decide +kernel
theorem dX6_been_49 : decode cX6_been 49 = .ok (.aload_n 0, 1) := by decide +kernel
theorem dX6_been_50 : decode cX6_been 50 = .ok (.getfield 7, 3) := by decide +kernel
theorem dX6_been_53 : decode cX6_been 53 = .ok (.iconst 2, 1) := by decide +kernel
theorem dX6_been_54 : decode cX6_been 54 = .ok (.iaload, 1) := by decide +kernel
theorem dX6_been_55 : decode cX6_been 55 = .ok (.imul, 1) := by decide +kernel
theorem dX6_been_56 : decode cX6_been 56 = .ok (.istore 4, 2) := by decide +kernel
theorem dX6_been_58 : decode cX6_been 58 = .ok (.iconst 0, 1) := by decide +kernel
theorem dX6_been_59 : decode cX6_been 59 = .ok (.istore 5, 2) := by decide +kernel
theorem dX6_been_61 : decode cX6_been 61 = .ok (.iload 5, 2) := by decide +kernel
theorem dX6_been_63 : decode cX6_been 63 = .ok (.iload 4, 2) := by decide +kernel
theorem dX6_been_65 : decode cX6_been 65 = .ok (.if_icmp .ge 45, 3) := by decide +kernel
theorem dX6_been_68 : decode cX6_been 68 = .ok (.aload_n 0, 1) := by decide +kernel
theorem dX6_been_69 : decode cX6_been 69 = .ok (.aload_n 0, 1) := by decide +kernel
theorem dX6_been_70 : decode cX6_been 70 = .ok (.getfield 7, 3) := by decide +kernel
theorem dX6_been_73 : decode cX6_been 73 = .ok (.bipush 23, 2) := by decide +kernel
theorem dX6_been_75 : decode cX6_been 75 = .ok (.aload_n 0, 1) := by decide +kernel
theorem dX6_been_76 : decode cX6_been 76 = .ok (.getfield 7, 3) := by decide +kernel
theorem dX6_been_79 : decode cX6_been 79 = .ok (.iconst 3, 1) := by decide +kernel
theorem dX6_been_80 : decode cX6_been 80 = .ok (.iaload, 1) := by decide +kernel
theorem dX6_been_81 : decode cX6_been 81 = .ok (.iload 5, 2) := by decide +kernel
theorem dX6_been_83 : decode cX6_been 83 = .ok (.iadd, 1) := by decide +kernel
theorem dX6_been_84 : decode cX6_been 84 = .ok (.aload_n 0, 1) := by decide +kernel
theorem dX6_been_85 : decode cX6_been 85 = .ok (.getfield 7, 3) := by decide +kernel
theorem dX6_been_88 : decode cX6_been 88 = .ok (.iconst 2, 1) := by decide +kernel
theorem dX6_been_89 : decode cX6_been 89 = .ok (.iaload, 1) := by decide +kernel
theorem dX6_been_90 : decode cX6_been 90 = .ok (.irem, 1) := by decide +kernel
theorem dX6_been_91 : decode cX6_been 91 = .ok (.iadd, 1) := by decide +kernel
theorem dX6_been_92 : decode cX6_been 92 = .ok (.iaload, 1) := by decide +kernel
theorem dX6_been_93 : decode cX6_been 93 = .ok (.iload_n 2, 1) := by decide +kernel
theorem dX6_been_94 : decode cX6_been 94 = .ok (.invokevirtual 67, 3) := by decide +kernel
theorem dX6_been_97 : decode cX6_been 97 = .ok (.istore_n 2, 1) := by decide +kernel
theorem dX6_been_98 : decode cX6_been 98 = .ok (.iload_n 3, 1) := by decide +kernel
theorem dX6_been_99 : decode cX6_been 99 = .ok (.iconst 1, 1) := by decide +kernel
theorem dX6_been_100 : decode cX6_been 100 = .ok (.iload_n 2, 1) := by decide +kernel
theorem dX6_been_101 : decode cX6_been 101 = .ok (.ishl, 1) := by decide +kernel
theorem dX6_been_102 : decode cX6_been 102 = .ok (.ior, 1) := by decide +kernel
theorem dX6_been_103 : decode cX6_been 103 = .ok (.istore_n 3, 1) := by decide +kernel
theorem dX6_been_104 : decode cX6_been 104 = .ok (.iinc 5 1, 3) := by decide +kernel
theorem dX6_been_107 : decode cX6_been 107 = .ok (.goto (-46), 3) := by decide +kernel
theorem dX6_been_110 : decode cX6_been 110 = .ok (.iload_n 3, 1) := by decide +kernel
theorem dX6_been_111 : decode cX6_been 111 = .ok (.ireturn, 1) := by decide +kernel
theorem dX6_ledBy_0 : decode cX6_ledBy 0 = .ok (.iconst 0, 1) := by decide +kernel
theorem dX6_ledBy_1 : decode cX6_ledBy 1 = .ok (.istore_n 3, 1) := by decide +kernel
theorem dX6_ledBy_2 : decode cX6_ledBy 2 = .ok (.iconst 0, 1) := by decide +kernel
theorem dX6_ledBy_3 : decode cX6_ledBy 3 = .ok (.istore 4, 2) := by decide +kernel
theorem dX6_ledBy_5 : decode cX6_ledBy 5 = .ok (.iload 4, 2) := by decide +kernel
theorem dX6_ledBy_7 : decode cX6_ledBy 7 = .ok (.bipush 8, 2) := by decide +kernel
theorem dX6_ledBy_9 : decode cX6_ledBy 9 = .ok (.if_icmp .ge 34, 3) := by decide +kernel
theorem dX6_ledBy_12 : decode cX6_ledBy 12 = .ok (.iload_n 3, 1) := by decide +kernel
theorem dX6_ledBy_13 : decode cX6_ledBy 13 = .ok (.iload_n 2, 1) := by decide +kernel
theorem dX6_ledBy_14 : decode cX6_ledBy 14 = .ok (.iload 4, 2) := by decide +kernel
theorem dX6_ledBy_16 : decode cX6_ledBy 16 = .ok (.invokestatic 82, 3) := by decide +kernel
theorem dX6_ledBy_19 : decode cX6_ledBy 19 = .ok (.ifCond .eq 15, 3) := by decide +kernel
theorem dX6_ledBy_22 : decode cX6_ledBy 22 = .ok (.iconst 1, 1) := by decide +kernel
theorem dX6_ledBy_23 : decode cX6_ledBy 23 = .ok (.aload_n 0, 1) := by decide +kernel
theorem dX6_ledBy_24 : decode cX6_ledBy 24 = .ok (.iload_n 1, 1) := by decide +kernel
theorem dX6_ledBy_25 : decode cX6_ledBy 25 = .ok (.iload 4, 2) := by decide +kernel
theorem dX6_ledBy_27 : decode cX6_ledBy 27 = .ok (.invokevirtual 67, 3) := by decide +kernel
theorem dX6_ledBy_30 : decode cX6_ledBy 30 = .ok (.ishl, 1) := by decide +kernel
theorem dX6_ledBy_31 : decode cX6_ledBy 31 = .ok (.goto 4, 3) := by decide +kernel
theorem dX6_ledBy_34 : decode cX6_ledBy 34 = .ok (.iconst 0, 1) := by decide +kernel
theorem dX6_ledBy_35 : decode cX6_ledBy 35 = .ok (.ior, 1) := by decide +kernel
theorem dX6_ledBy_36 : decode cX6_ledBy 36 = .ok (.istore_n 3, 1) := by decide +kernel
theorem dX6_ledBy_37 : decode cX6_ledBy 37 = .ok (.iinc 4 1, 3) := by decide +kernel
theorem dX6_ledBy_40 : decode cX6_ledBy 40 = .ok (.goto (-35), 3) := by decide +kernel
theorem dX6_ledBy_43 : decode cX6_ledBy 43 = .ok (.iload_n 3, 1) := by decide +kernel
theorem dX6_ledBy_44 : decode cX6_ledBy 44 = .ok (.ireturn, 1) := by decide +kernel
theorem dX6_laysFar_0 : decode cX6_laysFar 0 = .ok (.iconst 0, 1) := by decide +kernel
theorem dX6_laysFar_1 : decode cX6_laysFar 1 = .ok (.istore_n 2, 1) := by decide +kernel
theorem dX6_laysFar_2 : decode cX6_laysFar 2 = .ok (.iload_n 2, 1) := by decide +kernel
theorem dX6_laysFar_3 : decode cX6_laysFar 3 = .ok (.sipush 256, 3) := by decide +kernel
theorem dX6_laysFar_6 : decode cX6_laysFar 6 = .ok (.if_icmp .ge 17, 3) := by decide +kernel
theorem dX6_laysFar_9 : decode cX6_laysFar 9 = .ok (.aload_n 0, 1) := by decide +kernel
theorem dX6_laysFar_10 : decode cX6_laysFar 10 = .ok (.getfield 29, 3) := by decide +kernel
theorem dX6_laysFar_13 : decode cX6_laysFar 13 = .ok (.iload_n 2, 1) := by decide +kernel
theorem dX6_laysFar_14 : decode cX6_laysFar 14 = .ok (.ldc 182, 2) := by decide +kernel
theorem dX6_laysFar_16 : decode cX6_laysFar 16 = .ok (.iastore, 1) := by decide +kernel
theorem dX6_laysFar_17 : decode cX6_laysFar 17 = .ok (.iinc 2 1, 3) := by decide +kernel
theorem dX6_laysFar_20 : decode cX6_laysFar 20 = .ok (.goto (-18), 3) := by decide +kernel
theorem dX6_laysFar_23 : decode cX6_laysFar 23 = .ok (.iconst 1, 1) := by decide +kernel
theorem dX6_laysFar_24 : decode cX6_laysFar 24 = .ok (.istore_n 2, 1) := by decide +kernel
theorem dX6_laysFar_25 : decode cX6_laysFar 25 = .ok (.aload_n 0, 1) := by decide +kernel
theorem dX6_laysFar_26 : decode cX6_laysFar 26 = .ok (.getfield 32, 3) := by decide +kernel
theorem dX6_laysFar_29 : decode cX6_laysFar 29 = .ok (.iconst 0, 1) := by decide +kernel
theorem dX6_laysFar_30 : decode cX6_laysFar 30 = .ok (.iload_n 1, 1) := by decide +kernel
theorem dX6_laysFar_31 : decode cX6_laysFar 31 = .ok (.iastore, 1) := by decide +kernel
theorem dX6_laysFar_32 : decode cX6_laysFar 32 = .ok (.aload_n 0, 1) := by decide +kernel
theorem dX6_laysFar_33 : decode cX6_laysFar 33 = .ok (.getfield 29, 3) := by decide +kernel
theorem dX6_laysFar_36 : decode cX6_laysFar 36 = .ok (.iload_n 1, 1) := by decide +kernel
theorem dX6_laysFar_37 : decode cX6_laysFar 37 = .ok (.iconst 0, 1) := by decide +kernel
theorem dX6_laysFar_38 : decode cX6_laysFar 38 = .ok (.iastore, 1) := by decide +kernel
theorem dX6_laysFar_39 : decode cX6_laysFar 39 = .ok (.iconst 0, 1) := by decide +kernel
theorem dX6_laysFar_40 : decode cX6_laysFar 40 = .ok (.istore_n 3, 1) := by decide +kernel
theorem dX6_laysFar_41 : decode cX6_laysFar 41 = .ok (.iload_n 3, 1) := by decide +kernel
theorem dX6_laysFar_42 : decode cX6_laysFar 42 = .ok (.iload_n 2, 1) := by decide +kernel
theorem dX6_laysFar_43 : decode cX6_laysFar 43 = .ok (.if_icmp .ge 86, 3) := by decide +kernel
theorem dX6_laysFar_46 : decode cX6_laysFar 46 = .ok (.iconst 0, 1) := by decide +kernel
theorem dX6_laysFar_47 : decode cX6_laysFar 47 = .ok (.istore 4, 2) := by decide +kernel
theorem dX6_laysFar_49 : decode cX6_laysFar 49 = .ok (.iload 4, 2) := by decide +kernel
theorem dX6_laysFar_51 : decode cX6_laysFar 51 = .ok (.aload_n 0, 1) := by decide +kernel
theorem dX6_laysFar_52 : decode cX6_laysFar 52 = .ok (.getfield 7, 3) := by decide +kernel
theorem dX6_laysFar_55 : decode cX6_laysFar 55 = .ok (.iconst 1, 1) := by decide +kernel
theorem dX6_laysFar_56 : decode cX6_laysFar 56 = .ok (.iaload, 1) := by decide +kernel
theorem dX6_laysFar_57 : decode cX6_laysFar 57 = .ok (.if_icmp .ge 66, 3) := by decide +kernel
theorem dX6_laysFar_60 : decode cX6_laysFar 60 = .ok (.aload_n 0, 1) := by decide +kernel
theorem dX6_laysFar_61 : decode cX6_laysFar 61 = .ok (.iload 4, 2) := by decide +kernel
theorem dX6_laysFar_63 : decode cX6_laysFar 63 = .ok (.aload_n 0, 1) := by decide +kernel
theorem dX6_laysFar_64 : decode cX6_laysFar 64 = .ok (.getfield 32, 3) := by decide +kernel
theorem dX6_laysFar_67 : decode cX6_laysFar 67 = .ok (.iload_n 3, 1) := by decide +kernel
theorem dX6_laysFar_68 : decode cX6_laysFar 68 = .ok (.iaload, 1) := by decide +kernel
theorem dX6_laysFar_69 : decode cX6_laysFar 69 = .ok (.invokevirtual 183, 3) := by decide +kernel
theorem dX6_laysFar_72 : decode cX6_laysFar 72 = .ok (.istore 5, 2) := by decide +kernel
theorem dX6_laysFar_74 : decode cX6_laysFar 74 = .ok (.aload_n 0, 1) := by decide +kernel
theorem dX6_laysFar_75 : decode cX6_laysFar 75 = .ok (.getfield 29, 3) := by decide +kernel
theorem dX6_laysFar_78 : decode cX6_laysFar 78 = .ok (.iload 5, 2) := by decide +kernel
theorem dX6_laysFar_80 : decode cX6_laysFar 80 = .ok (.iaload, 1) := by decide +kernel
theorem dX6_laysFar_81 : decode cX6_laysFar 81 = .ok (.ldc 182, 2) := by decide +kernel
theorem dX6_laysFar_83 : decode cX6_laysFar 83 = .ok (.if_icmp .ne 34, 3) := by decide +kernel
theorem dX6_laysFar_86 : decode cX6_laysFar 86 = .ok (.aload_n 0, 1) := by decide +kernel
theorem dX6_laysFar_87 : decode cX6_laysFar 87 = .ok (.getfield 29, 3) := by decide +kernel
theorem dX6_laysFar_90 : decode cX6_laysFar 90 = .ok (.iload 5, 2) := by decide +kernel
theorem dX6_laysFar_92 : decode cX6_laysFar 92 = .ok (.aload_n 0, 1) := by decide +kernel
theorem dX6_laysFar_93 : decode cX6_laysFar 93 = .ok (.getfield 29, 3) := by decide +kernel
theorem dX6_laysFar_96 : decode cX6_laysFar 96 = .ok (.aload_n 0, 1) := by decide +kernel
theorem dX6_laysFar_97 : decode cX6_laysFar 97 = .ok (.getfield 32, 3) := by decide +kernel
theorem dX6_laysFar_100 : decode cX6_laysFar 100 = .ok (.iload_n 3, 1) := by decide +kernel
theorem dX6_laysFar_101 : decode cX6_laysFar 101 = .ok (.iaload, 1) := by decide +kernel
theorem dX6_laysFar_102 : decode cX6_laysFar 102 = .ok (.iaload, 1) := by decide +kernel
theorem dX6_laysFar_103 : decode cX6_laysFar 103 = .ok (.iconst 1, 1) := by decide +kernel
theorem dX6_laysFar_104 : decode cX6_laysFar 104 = .ok (.iadd, 1) := by decide +kernel
theorem dX6_laysFar_105 : decode cX6_laysFar 105 = .ok (.iastore, 1) := by decide +kernel
theorem dX6_laysFar_106 : decode cX6_laysFar 106 = .ok (.aload_n 0, 1) := by decide +kernel
theorem dX6_laysFar_107 : decode cX6_laysFar 107 = .ok (.getfield 32, 3) := by decide +kernel
theorem dX6_laysFar_110 : decode cX6_laysFar 110 = .ok (.iload_n 2, 1) := by decide +kernel
theorem dX6_laysFar_111 : decode cX6_laysFar 111 = .ok (.iload 5, 2) := by decide +kernel
theorem dX6_laysFar_113 : decode cX6_laysFar 113 = .ok (.iastore, 1) := by decide +kernel
theorem dX6_laysFar_114 : decode cX6_laysFar 114 = .ok (.iinc 2 1, 3) := by decide +kernel
theorem dX6_laysFar_117 : decode cX6_laysFar 117 = .ok (.iinc 4 1, 3) := by decide +kernel
theorem dX6_laysFar_120 : decode cX6_laysFar 120 = .ok (.goto (-71), 3) := by decide +kernel
theorem dX6_laysFar_123 : decode cX6_laysFar 123 = .ok (.iinc 3 1, 3) := by decide +kernel
theorem dX6_laysFar_126 : decode cX6_laysFar 126 = .ok (.goto (-85), 3) := by decide +kernel
theorem dX6_laysFar_129 : decode cX6_laysFar 129 = .ok (.iload_n 2, 1) := by decide +kernel
theorem dX6_laysFar_130 : decode cX6_laysFar 130 = .ok (.ireturn, 1) := by decide +kernel
theorem dX6_laysLeft_0 : decode cX6_laysLeft 0 = .ok (.iconst 0, 1) := by decide +kernel
theorem dX6_laysLeft_1 : decode cX6_laysLeft 1 = .ok (.istore_n 2, 1) := by decide +kernel
theorem dX6_laysLeft_2 : decode cX6_laysLeft 2 = .ok (.iload_n 2, 1) := by decide +kernel
theorem dX6_laysLeft_3 : decode cX6_laysLeft 3 = .ok (.sipush 256, 3) := by decide +kernel
theorem dX6_laysLeft_6 : decode cX6_laysLeft 6 = .ok (.if_icmp .ge 26, 3) := by decide +kernel
theorem dX6_laysLeft_9 : decode cX6_laysLeft 9 = .ok (.aload_n 0, 1) := by decide +kernel
theorem dX6_laysLeft_10 : decode cX6_laysLeft 10 = .ok (.getfield 35, 3) := by decide +kernel
theorem dX6_laysLeft_13 : decode cX6_laysLeft 13 = .ok (.iload_n 2, 1) := by decide +kernel
theorem dX6_laysLeft_14 : decode cX6_laysLeft 14 = .ok (.iload_n 2, 1) := by decide +kernel
theorem dX6_laysLeft_15 : decode cX6_laysLeft 15 = .ok (.iload_n 1, 1) := by decide +kernel
theorem dX6_laysLeft_16 : decode cX6_laysLeft 16 = .ok (.if_icmp .ne 7, 3) := by decide +kernel
theorem dX6_laysLeft_19 : decode cX6_laysLeft 19 = .ok (.iconst 0, 1) := by decide +kernel
theorem dX6_laysLeft_20 : decode cX6_laysLeft 20 = .ok (.goto 5, 3) := by decide +kernel
theorem dX6_laysLeft_23 : decode cX6_laysLeft 23 = .ok (.ldc 182, 2) := by decide +kernel
theorem dX6_laysLeft_25 : decode cX6_laysLeft 25 = .ok (.iastore, 1) := by decide +kernel
theorem dX6_laysLeft_26 : decode cX6_laysLeft 26 = .ok (.iinc 2 1, 3) := by decide +kernel
theorem dX6_laysLeft_29 : decode cX6_laysLeft 29 = .ok (.goto (-27), 3) := by decide +kernel
theorem dX6_laysLeft_32 : decode cX6_laysLeft 32 = .ok (.iconst 1, 1) := by decide +kernel
theorem dX6_laysLeft_33 : decode cX6_laysLeft 33 = .ok (.istore_n 2, 1) := by decide +kernel
theorem dX6_laysLeft_34 : decode cX6_laysLeft 34 = .ok (.iload_n 2, 1) := by decide +kernel
theorem dX6_laysLeft_35 : decode cX6_laysLeft 35 = .ok (.ifCond .eq 80, 3) := by decide +kernel
theorem dX6_laysLeft_38 : decode cX6_laysLeft 38 = .ok (.iconst 0, 1) := by decide +kernel
theorem dX6_laysLeft_39 : decode cX6_laysLeft 39 = .ok (.istore_n 2, 1) := by decide +kernel
theorem dX6_laysLeft_40 : decode cX6_laysLeft 40 = .ok (.iconst 0, 1) := by decide +kernel
theorem dX6_laysLeft_41 : decode cX6_laysLeft 41 = .ok (.istore_n 3, 1) := by decide +kernel
theorem dX6_laysLeft_42 : decode cX6_laysLeft 42 = .ok (.iload_n 3, 1) := by decide +kernel
theorem dX6_laysLeft_43 : decode cX6_laysLeft 43 = .ok (.sipush 256, 3) := by decide +kernel
theorem dX6_laysLeft_46 : decode cX6_laysLeft 46 = .ok (.if_icmp .ge 66, 3) := by decide +kernel
theorem dX6_laysLeft_49 : decode cX6_laysLeft 49 = .ok (.iconst 0, 1) := by decide +kernel
theorem dX6_laysLeft_50 : decode cX6_laysLeft 50 = .ok (.istore 4, 2) := by decide +kernel
theorem dX6_laysLeft_52 : decode cX6_laysLeft 52 = .ok (.iload 4, 2) := by decide +kernel
theorem dX6_laysLeft_54 : decode cX6_laysLeft 54 = .ok (.aload_n 0, 1) := by decide +kernel
theorem dX6_laysLeft_55 : decode cX6_laysLeft 55 = .ok (.getfield 7, 3) := by decide +kernel
theorem dX6_laysLeft_58 : decode cX6_laysLeft 58 = .ok (.iconst 1, 1) := by decide +kernel
theorem dX6_laysLeft_59 : decode cX6_laysLeft 59 = .ok (.iaload, 1) := by decide +kernel
theorem dX6_laysLeft_60 : decode cX6_laysLeft 60 = .ok (.if_icmp .ge 46, 3) := by decide +kernel
theorem dX6_laysLeft_63 : decode cX6_laysLeft 63 = .ok (.aload_n 0, 1) := by decide +kernel
theorem dX6_laysLeft_64 : decode cX6_laysLeft 64 = .ok (.getfield 35, 3) := by decide +kernel
theorem dX6_laysLeft_67 : decode cX6_laysLeft 67 = .ok (.aload_n 0, 1) := by decide +kernel
theorem dX6_laysLeft_68 : decode cX6_laysLeft 68 = .ok (.iload 4, 2) := by decide +kernel
theorem dX6_laysLeft_70 : decode cX6_laysLeft 70 = .ok (.iload_n 3, 1) := by decide +kernel
theorem dX6_laysLeft_71 : decode cX6_laysLeft 71 = .ok (.invokevirtual 183, 3) := by decide +kernel
theorem dX6_laysLeft_74 : decode cX6_laysLeft 74 = .ok (.iaload, 1) := by decide +kernel
theorem dX6_laysLeft_75 : decode cX6_laysLeft 75 = .ok (.iconst 1, 1) := by decide +kernel
theorem dX6_laysLeft_76 : decode cX6_laysLeft 76 = .ok (.iadd, 1) := by decide +kernel
theorem dX6_laysLeft_77 : decode cX6_laysLeft 77 = .ok (.istore 5, 2) := by decide +kernel
theorem dX6_laysLeft_79 : decode cX6_laysLeft 79 = .ok (.iload 5, 2) := by decide +kernel
theorem dX6_laysLeft_81 : decode cX6_laysLeft 81 = .ok (.aload_n 0, 1) := by decide +kernel
theorem dX6_laysLeft_82 : decode cX6_laysLeft 82 = .ok (.getfield 35, 3) := by decide +kernel
theorem dX6_laysLeft_85 : decode cX6_laysLeft 85 = .ok (.iload_n 3, 1) := by decide +kernel
theorem dX6_laysLeft_86 : decode cX6_laysLeft 86 = .ok (.iaload, 1) := by decide +kernel
theorem dX6_laysLeft_87 : decode cX6_laysLeft 87 = .ok (.if_icmp .ge 13, 3) := by decide +kernel
theorem dX6_laysLeft_90 : decode cX6_laysLeft 90 = .ok (.aload_n 0, 1) := by decide +kernel
theorem dX6_laysLeft_91 : decode cX6_laysLeft 91 = .ok (.getfield 35, 3) := by decide +kernel
theorem dX6_laysLeft_94 : decode cX6_laysLeft 94 = .ok (.iload_n 3, 1) := by decide +kernel
theorem dX6_laysLeft_95 : decode cX6_laysLeft 95 = .ok (.iload 5, 2) := by decide +kernel
theorem dX6_laysLeft_97 : decode cX6_laysLeft 97 = .ok (.iastore, 1) := by decide +kernel
theorem dX6_laysLeft_98 : decode cX6_laysLeft 98 = .ok (.iconst 1, 1) := by decide +kernel
theorem dX6_laysLeft_99 : decode cX6_laysLeft 99 = .ok (.istore_n 2, 1) := by decide +kernel
theorem dX6_laysLeft_100 : decode cX6_laysLeft 100 = .ok (.iinc 4 1, 3) := by decide +kernel
theorem dX6_laysLeft_103 : decode cX6_laysLeft 103 = .ok (.goto (-51), 3) := by decide +kernel
theorem dX6_laysLeft_106 : decode cX6_laysLeft 106 = .ok (.iinc 3 1, 3) := by decide +kernel
theorem dX6_laysLeft_109 : decode cX6_laysLeft 109 = .ok (.goto (-67), 3) := by decide +kernel
theorem dX6_laysLeft_112 : decode cX6_laysLeft 112 = .ok (.goto (-78), 3) := by decide +kernel
theorem dX6_laysLeft_115 : decode cX6_laysLeft 115 = .ok (.return_, 1) := by decide +kernel
theorem dX6_shortest_0 : decode cX6_shortest 0 = .ok (.iload_n 1, 1) := by decide +kernel
theorem dX6_shortest_1 : decode cX6_shortest 1 = .ok (.i2l, 1) := by decide +kernel
theorem dX6_shortest_2 : decode cX6_shortest 2 = .ok (.lconst 0, 1) := by decide +kernel
theorem dX6_shortest_3 : decode cX6_shortest 3 = .ok (.ldc2_w 186, 3) := by decide +kernel
theorem dX6_shortest_6 : decode cX6_shortest 6 = .ok (.invokestatic 52, 3) := by decide +kernel
theorem dX6_shortest_9 : decode cX6_shortest 9 = .ok (.ifCond .eq 8, 3) := by decide +kernel
theorem dX6_shortest_12 : decode cX6_shortest 12 = .ok (.iload_n 2, 1) := by decide +kernel
theorem dX6_shortest_13 : decode cX6_shortest 13 = .ok (.iconst (-1), 1) := by decide +kernel
theorem dX6_shortest_14 : decode cX6_shortest 14 = .ok (.if_icmp .ge 5, 3) := by decide +kernel
theorem dX6_shortest_17 : decode cX6_shortest 17 = .ok (.iconst (-1), 1) := by decide +kernel
theorem dX6_shortest_18 : decode cX6_shortest 18 = .ok (.ireturn, 1) := by decide +kernel
theorem dX6_shortest_19 : decode cX6_shortest 19 = .ok (.aload_n 0, 1) := by decide +kernel
theorem dX6_shortest_20 : decode cX6_shortest 20 = .ok (.iload_n 1, 1) := by decide +kernel
theorem dX6_shortest_21 : decode cX6_shortest 21 = .ok (.invokevirtual 188, 3) := by decide +kernel
theorem dX6_shortest_24 : decode cX6_shortest 24 = .ok (.aload_n 0, 1) := by decide +kernel
theorem dX6_shortest_25 : decode cX6_shortest 25 = .ok (.invokevirtual 78, 3) := by decide +kernel
theorem dX6_shortest_28 : decode cX6_shortest 28 = .ok (.istore_n 3, 1) := by decide +kernel
theorem dX6_shortest_29 : decode cX6_shortest 29 = .ok (.aload_n 0, 1) := by decide +kernel
theorem dX6_shortest_30 : decode cX6_shortest 30 = .ok (.getfield 35, 3) := by decide +kernel
theorem dX6_shortest_33 : decode cX6_shortest 33 = .ok (.iload_n 3, 1) := by decide +kernel
theorem dX6_shortest_34 : decode cX6_shortest 34 = .ok (.iaload, 1) := by decide +kernel
theorem dX6_shortest_35 : decode cX6_shortest 35 = .ok (.ldc 182, 2) := by decide +kernel
theorem dX6_shortest_37 : decode cX6_shortest 37 = .ok (.if_icmp .lt 6, 3) := by decide +kernel
theorem dX6_shortest_40 : decode cX6_shortest 40 = .ok (.bipush (-4), 2) := by decide +kernel
theorem dX6_shortest_42 : decode cX6_shortest 42 = .ok (.ireturn, 1) := by decide +kernel
theorem dX6_shortest_43 : decode cX6_shortest 43 = .ok (.aload_n 0, 1) := by decide +kernel
theorem dX6_shortest_44 : decode cX6_shortest 44 = .ok (.getfield 35, 3) := by decide +kernel
theorem dX6_shortest_47 : decode cX6_shortest 47 = .ok (.iload_n 3, 1) := by decide +kernel
theorem dX6_shortest_48 : decode cX6_shortest 48 = .ok (.iaload, 1) := by decide +kernel
theorem dX6_shortest_49 : decode cX6_shortest 49 = .ok (.istore 4, 2) := by decide +kernel
theorem dX6_shortest_51 : decode cX6_shortest 51 = .ok (.iload_n 2, 1) := by decide +kernel
theorem dX6_shortest_52 : decode cX6_shortest 52 = .ok (.ifCond .ge 6, 3) := by decide +kernel
theorem dX6_shortest_55 : decode cX6_shortest 55 = .ok (.iload 4, 2) := by decide +kernel
theorem dX6_shortest_57 : decode cX6_shortest 57 = .ok (.ireturn, 1) := by decide +kernel
theorem dX6_shortest_58 : decode cX6_shortest 58 = .ok (.iload_n 2, 1) := by decide +kernel
theorem dX6_shortest_59 : decode cX6_shortest 59 = .ok (.iload 4, 2) := by decide +kernel
theorem dX6_shortest_61 : decode cX6_shortest 61 = .ok (.if_icmp .lt 6, 3) := by decide +kernel
theorem dX6_shortest_64 : decode cX6_shortest 64 = .ok (.bipush (-4), 2) := by decide +kernel
theorem dX6_shortest_66 : decode cX6_shortest 66 = .ok (.ireturn, 1) := by decide +kernel
theorem dX6_shortest_67 : decode cX6_shortest 67 = .ok (.iconst 0, 1) := by decide +kernel
theorem dX6_shortest_68 : decode cX6_shortest 68 = .ok (.istore 5, 2) := by decide +kernel
theorem dX6_shortest_70 : decode cX6_shortest 70 = .ok (.iconst 0, 1) := by decide +kernel
theorem dX6_shortest_71 : decode cX6_shortest 71 = .ok (.istore 6, 2) := by decide +kernel
theorem dX6_shortest_73 : decode cX6_shortest 73 = .ok (.iload 6, 2) := by decide +kernel
theorem dX6_shortest_75 : decode cX6_shortest 75 = .ok (.iload_n 2, 1) := by decide +kernel
theorem dX6_shortest_76 : decode cX6_shortest 76 = .ok (.if_icmp .gt 48, 3) := by decide +kernel
theorem dX6_shortest_79 : decode cX6_shortest 79 = .ok (.iconst 0, 1) := by decide +kernel
theorem dX6_shortest_80 : decode cX6_shortest 80 = .ok (.istore 5, 2) := by decide +kernel
theorem dX6_shortest_82 : decode cX6_shortest 82 = .ok (.aload_n 0, 1) := by decide +kernel
theorem dX6_shortest_83 : decode cX6_shortest 83 = .ok (.getfield 35, 3) := by decide +kernel
theorem dX6_shortest_86 : decode cX6_shortest 86 = .ok (.aload_n 0, 1) := by decide +kernel
theorem dX6_shortest_87 : decode cX6_shortest 87 = .ok (.iload 5, 2) := by decide +kernel
theorem dX6_shortest_89 : decode cX6_shortest 89 = .ok (.iload_n 3, 1) := by decide +kernel
theorem dX6_shortest_90 : decode cX6_shortest 90 = .ok (.invokevirtual 183, 3) := by decide +kernel
theorem dX6_shortest_93 : decode cX6_shortest 93 = .ok (.iaload, 1) := by decide +kernel
theorem dX6_shortest_94 : decode cX6_shortest 94 = .ok (.iload 4, 2) := by decide +kernel
theorem dX6_shortest_96 : decode cX6_shortest 96 = .ok (.iload 6, 2) := by decide +kernel
theorem dX6_shortest_98 : decode cX6_shortest 98 = .ok (.isub, 1) := by decide +kernel
theorem dX6_shortest_99 : decode cX6_shortest 99 = .ok (.iconst 1, 1) := by decide +kernel
theorem dX6_shortest_100 : decode cX6_shortest 100 = .ok (.isub, 1) := by decide +kernel
theorem dX6_shortest_101 : decode cX6_shortest 101 = .ok (.if_icmp .eq 9, 3) := by decide +kernel
theorem dX6_shortest_104 : decode cX6_shortest 104 = .ok (.iinc 5 1, 3) := by decide +kernel
theorem dX6_shortest_107 : decode cX6_shortest 107 = .ok (.goto (-25), 3) := by decide +kernel
theorem dX6_shortest_110 : decode cX6_shortest 110 = .ok (.aload_n 0, 1) := by decide +kernel
theorem dX6_shortest_111 : decode cX6_shortest 111 = .ok (.iload 5, 2) := by decide +kernel
theorem dX6_shortest_113 : decode cX6_shortest 113 = .ok (.iload_n 3, 1) := by decide +kernel
theorem dX6_shortest_114 : decode cX6_shortest 114 = .ok (.invokevirtual 183, 3) := by decide +kernel
theorem dX6_shortest_117 : decode cX6_shortest 117 = .ok (.istore_n 3, 1) := by decide +kernel
theorem dX6_shortest_118 : decode cX6_shortest 118 = .ok (.iinc 6 1, 3) := by decide +kernel
theorem dX6_shortest_121 : decode cX6_shortest 121 = .ok (.goto (-48), 3) := by decide +kernel
theorem dX6_shortest_124 : decode cX6_shortest 124 = .ok (.iload 5, 2) := by decide +kernel
theorem dX6_shortest_126 : decode cX6_shortest 126 = .ok (.ireturn, 1) := by decide +kernel
theorem dX6_sorts_0 : decode cX6_sorts 0 = .ok (.aload_n 0, 1) := by decide +kernel
theorem dX6_sorts_1 : decode cX6_sorts 1 = .ok (.aload_n 0, 1) := by decide +kernel
theorem dX6_sorts_2 : decode cX6_sorts 2 = .ok (.invokevirtual 78, 3) := by decide +kernel
theorem dX6_sorts_5 : decode cX6_sorts 5 = .ok (.invokevirtual 191, 3) := by decide +kernel
theorem dX6_sorts_8 : decode cX6_sorts 8 = .ok (.ireturn, 1) := by decide +kernel
theorem dX6_apartBy_0 : decode cX6_apartBy 0 = .ok (.iload_n 0, 1) := by decide +kernel
theorem dX6_apartBy_1 : decode cX6_apartBy 1 = .ok (.iload_n 1, 1) := by decide +kernel
theorem dX6_apartBy_2 : decode cX6_apartBy 2 = .ok (.if_icmp .ge 9, 3) := by decide +kernel
theorem dX6_apartBy_5 : decode cX6_apartBy 5 = .ok (.iload_n 1, 1) := by decide +kernel
theorem dX6_apartBy_6 : decode cX6_apartBy 6 = .ok (.iload_n 0, 1) := by decide +kernel
theorem dX6_apartBy_7 : decode cX6_apartBy 7 = .ok (.isub, 1) := by decide +kernel
theorem dX6_apartBy_8 : decode cX6_apartBy 8 = .ok (.goto 6, 3) := by decide +kernel
theorem dX6_apartBy_11 : decode cX6_apartBy 11 = .ok (.iload_n 0, 1) := by decide +kernel
theorem dX6_apartBy_12 : decode cX6_apartBy 12 = .ok (.iload_n 1, 1) := by decide +kernel
theorem dX6_apartBy_13 : decode cX6_apartBy 13 = .ok (.isub, 1) := by decide +kernel
theorem dX6_apartBy_14 : decode cX6_apartBy 14 = .ok (.istore_n 2, 1) := by decide +kernel
theorem dX6_apartBy_15 : decode cX6_apartBy 15 = .ok (.iload_n 2, 1) := by decide +kernel
theorem dX6_apartBy_16 : decode cX6_apartBy 16 = .ok (.iconst 4, 1) := by decide +kernel
theorem dX6_apartBy_17 : decode cX6_apartBy 17 = .ok (.if_icmp .le 10, 3) := by decide +kernel
theorem dX6_apartBy_20 : decode cX6_apartBy 20 = .ok (.bipush 8, 2) := by decide +kernel
theorem dX6_apartBy_22 : decode cX6_apartBy 22 = .ok (.iload_n 2, 1) := by decide +kernel
theorem dX6_apartBy_23 : decode cX6_apartBy 23 = .ok (.isub, 1) := by decide +kernel
theorem dX6_apartBy_24 : decode cX6_apartBy 24 = .ok (.goto 4, 3) := by decide +kernel
theorem dX6_apartBy_27 : decode cX6_apartBy 27 = .ok (.iload_n 2, 1) := by decide +kernel
theorem dX6_apartBy_28 : decode cX6_apartBy 28 = .ok (.ireturn, 1) := by decide +kernel
theorem dX6_apart_0 : decode cX6_apart 0 = .ok (.aload_n 0, 1) := by decide +kernel
theorem dX6_apart_1 : decode cX6_apart 1 = .ok (.iload_n 1, 1) := by decide +kernel
theorem dX6_apart_2 : decode cX6_apart 2 = .ok (.invokevirtual 100, 3) := by decide +kernel
theorem dX6_apart_5 : decode cX6_apart 5 = .ok (.ifCond .eq 26, 3) := by decide +kernel
theorem dX6_apart_8 : decode cX6_apart 8 = .ok (.aload_n 0, 1) := by decide +kernel
theorem dX6_apart_9 : decode cX6_apart 9 = .ok (.iload_n 2, 1) := by decide +kernel
theorem dX6_apart_10 : decode cX6_apart 10 = .ok (.invokevirtual 100, 3) := by decide +kernel
theorem dX6_apart_13 : decode cX6_apart 13 = .ok (.ifCond .eq 18, 3) := by decide +kernel
theorem dX6_apart_16 : decode cX6_apart 16 = .ok (.iload_n 1, 1) := by decide +kernel
theorem dX6_apart_17 : decode cX6_apart 17 = .ok (.iload_n 2, 1) := by decide +kernel
theorem dX6_apart_18 : decode cX6_apart 18 = .ok (.if_icmp .eq 13, 3) := by decide +kernel
theorem dX6_apart_21 : decode cX6_apart 21 = .ok (.iload_n 3, 1) := by decide +kernel
theorem dX6_apart_22 : decode cX6_apart 22 = .ok (.i2l, 1) := by decide +kernel
theorem dX6_apart_23 : decode cX6_apart 23 = .ok (.lconst 0, 1) := by decide +kernel
theorem dX6_apart_24 : decode cX6_apart 24 = .ok (.lconst 1, 1) := by decide +kernel
theorem dX6_apart_25 : decode cX6_apart 25 = .ok (.invokestatic 52, 3) := by decide +kernel
theorem dX6_apart_28 : decode cX6_apart 28 = .ok (.ifCond .ne 5, 3) := by decide +kernel
theorem dX6_apart_31 : decode cX6_apart 31 = .ok (.iconst (-1), 1) := by decide +kernel
theorem dX6_apart_32 : decode cX6_apart 32 = .ok (.ireturn, 1) := by decide +kernel
theorem dX6_apart_33 : decode cX6_apart 33 = .ok (.aload_n 0, 1) := by decide +kernel
theorem dX6_apart_34 : decode cX6_apart 34 = .ok (.getfield 7, 3) := by decide +kernel
theorem dX6_apart_37 : decode cX6_apart 37 = .ok (.iconst 5, 1) := by decide +kernel
theorem dX6_apart_38 : decode cX6_apart 38 = .ok (.iload_n 1, 1) := by decide +kernel
theorem dX6_apart_39 : decode cX6_apart 39 = .ok (.iadd, 1) := by decide +kernel
theorem dX6_apart_40 : decode cX6_apart 40 = .ok (.iaload, 1) := by decide +kernel
theorem dX6_apart_41 : decode cX6_apart 41 = .ok (.bipush (-4), 2) := by decide +kernel
theorem dX6_apart_43 : decode cX6_apart 43 = .ok (.if_icmp .eq 16, 3) := by decide +kernel
theorem dX6_apart_46 : decode cX6_apart 46 = .ok (.aload_n 0, 1) := by decide +kernel
theorem dX6_apart_47 : decode cX6_apart 47 = .ok (.getfield 7, 3) := by decide +kernel
theorem dX6_apart_50 : decode cX6_apart 50 = .ok (.iconst 5, 1) := by decide +kernel
theorem dX6_apart_51 : decode cX6_apart 51 = .ok (.iload_n 2, 1) := by decide +kernel
theorem dX6_apart_52 : decode cX6_apart 52 = .ok (.iadd, 1) := by decide +kernel
theorem dX6_apart_53 : decode cX6_apart 53 = .ok (.iaload, 1) := by decide +kernel
theorem dX6_apart_54 : decode cX6_apart 54 = .ok (.bipush (-4), 2) := by decide +kernel
theorem dX6_apart_56 : decode cX6_apart 56 = .ok (.if_icmp .ne 6, 3) := by decide +kernel
theorem dX6_apart_59 : decode cX6_apart 59 = .ok (.bipush (-2), 2) := by decide +kernel
theorem dX6_apart_61 : decode cX6_apart 61 = .ok (.ireturn, 1) := by decide +kernel
theorem dX6_apart_62 : decode cX6_apart 62 = .ok (.iconst 0, 1) := by decide +kernel
theorem dX6_apart_63 : decode cX6_apart 63 = .ok (.istore 4, 2) := by decide +kernel
theorem dX6_apart_65 : decode cX6_apart 65 = .ok (.iload 4, 2) := by decide +kernel
theorem dX6_apart_67 : decode cX6_apart 67 = .ok (.bipush 64, 2) := by decide +kernel
theorem dX6_apart_69 : decode cX6_apart 69 = .ok (.if_icmp .ge 18, 3) := by decide +kernel
theorem dX6_apart_72 : decode cX6_apart 72 = .ok (.aload_n 0, 1) := by decide +kernel
theorem dX6_apart_73 : decode cX6_apart 73 = .ok (.getfield 38, 3) := by decide +kernel
theorem dX6_apart_76 : decode cX6_apart 76 = .ok (.iload 4, 2) := by decide +kernel
theorem dX6_apart_78 : decode cX6_apart 78 = .ok (.ldc 182, 2) := by decide +kernel
theorem dX6_apart_80 : decode cX6_apart 80 = .ok (.iastore, 1) := by decide +kernel
theorem dX6_apart_81 : decode cX6_apart 81 = .ok (.iinc 4 1, 3) := by decide +kernel
theorem dX6_apart_84 : decode cX6_apart 84 = .ok (.goto (-19), 3) := by decide +kernel
theorem dX6_apart_87 : decode cX6_apart 87 = .ok (.iconst 1, 1) := by decide +kernel
theorem dX6_apart_88 : decode cX6_apart 88 = .ok (.istore 4, 2) := by decide +kernel
theorem dX6_apart_90 : decode cX6_apart 90 = .ok (.aload_n 0, 1) := by decide +kernel
theorem dX6_apart_91 : decode cX6_apart 91 = .ok (.getfield 32, 3) := by decide +kernel
theorem dX6_apart_94 : decode cX6_apart 94 = .ok (.iconst 0, 1) := by decide +kernel
theorem dX6_apart_95 : decode cX6_apart 95 = .ok (.bipush 8, 2) := by decide +kernel
theorem dX6_apart_97 : decode cX6_apart 97 = .ok (.aload_n 0, 1) := by decide +kernel
theorem dX6_apart_98 : decode cX6_apart 98 = .ok (.getfield 7, 3) := by decide +kernel
theorem dX6_apart_101 : decode cX6_apart 101 = .ok (.iconst 5, 1) := by decide +kernel
theorem dX6_apart_102 : decode cX6_apart 102 = .ok (.iload_n 1, 1) := by decide +kernel
theorem dX6_apart_103 : decode cX6_apart 103 = .ok (.iadd, 1) := by decide +kernel
theorem dX6_apart_104 : decode cX6_apart 104 = .ok (.iaload, 1) := by decide +kernel
theorem dX6_apart_105 : decode cX6_apart 105 = .ok (.imul, 1) := by decide +kernel
theorem dX6_apart_106 : decode cX6_apart 106 = .ok (.aload_n 0, 1) := by decide +kernel
theorem dX6_apart_107 : decode cX6_apart 107 = .ok (.getfield 7, 3) := by decide +kernel
theorem dX6_apart_110 : decode cX6_apart 110 = .ok (.iconst 5, 1) := by decide +kernel
theorem dX6_apart_111 : decode cX6_apart 111 = .ok (.iload_n 2, 1) := by decide +kernel
theorem dX6_apart_112 : decode cX6_apart 112 = .ok (.iadd, 1) := by decide +kernel
theorem dX6_apart_113 : decode cX6_apart 113 = .ok (.iaload, 1) := by decide +kernel
theorem dX6_apart_114 : decode cX6_apart 114 = .ok (.iadd, 1) := by decide +kernel
theorem dX6_apart_115 : decode cX6_apart 115 = .ok (.iastore, 1) := by decide +kernel
theorem dX6_apart_116 : decode cX6_apart 116 = .ok (.aload_n 0, 1) := by decide +kernel
theorem dX6_apart_117 : decode cX6_apart 117 = .ok (.getfield 38, 3) := by decide +kernel
theorem dX6_apart_120 : decode cX6_apart 120 = .ok (.aload_n 0, 1) := by decide +kernel
theorem dX6_apart_121 : decode cX6_apart 121 = .ok (.getfield 32, 3) := by decide +kernel
theorem dX6_apart_124 : decode cX6_apart 124 = .ok (.iconst 0, 1) := by decide +kernel
theorem dX6_apart_125 : decode cX6_apart 125 = .ok (.iaload, 1) := by decide +kernel
theorem dX6_apart_126 : decode cX6_apart 126 = .ok (.iconst 0, 1) := by decide +kernel
theorem dX6_apart_127 : decode cX6_apart 127 = .ok (.iastore, 1) := by decide +kernel
theorem dX6_apart_128 : decode cX6_apart 128 = .ok (.ldc 182, 2) := by decide +kernel
theorem dX6_apart_130 : decode cX6_apart 130 = .ok (.istore 5, 2) := by decide +kernel
theorem dX6_apart_132 : decode cX6_apart 132 = .ok (.iconst (-1), 1) := by decide +kernel
theorem dX6_apart_133 : decode cX6_apart 133 = .ok (.istore 6, 2) := by decide +kernel
theorem dX6_apart_135 : decode cX6_apart 135 = .ok (.iconst 0, 1) := by decide +kernel
theorem dX6_apart_136 : decode cX6_apart 136 = .ok (.istore 7, 2) := by decide +kernel
theorem dX6_apart_138 : decode cX6_apart 138 = .ok (.iload 7, 2) := by decide +kernel
theorem dX6_apart_140 : decode cX6_apart 140 = .ok (.iload 4, 2) := by decide +kernel
theorem dX6_apart_142 : decode cX6_apart 142 = .ok (.if_icmp .ge 158, 3) := by decide +kernel
theorem dX6_apart_145 : decode cX6_apart 145 = .ok (.aload_n 0, 1) := by decide +kernel
theorem dX6_apart_146 : decode cX6_apart 146 = .ok (.getfield 32, 3) := by decide +kernel
theorem dX6_apart_149 : decode cX6_apart 149 = .ok (.iload 7, 2) := by decide +kernel
theorem dX6_apart_151 : decode cX6_apart 151 = .ok (.iaload, 1) := by decide +kernel
theorem dX6_apart_152 : decode cX6_apart 152 = .ok (.istore 8, 2) := by decide +kernel
theorem dX6_apart_154 : decode cX6_apart 154 = .ok (.iload 8, 2) := by decide +kernel
theorem dX6_apart_156 : decode cX6_apart 156 = .ok (.bipush 8, 2) := by decide +kernel
theorem dX6_apart_158 : decode cX6_apart 158 = .ok (.idiv, 1) := by decide +kernel
theorem dX6_apart_159 : decode cX6_apart 159 = .ok (.iload 8, 2) := by decide +kernel
theorem dX6_apart_161 : decode cX6_apart 161 = .ok (.bipush 8, 2) := by decide +kernel
theorem dX6_apart_163 : decode cX6_apart 163 = .ok (.irem, 1) := by decide +kernel
theorem dX6_apart_164 : decode cX6_apart 164 = .ok (.invokestatic 194, 3) := by decide +kernel
theorem dX6_apart_167 : decode cX6_apart 167 = .ok (.istore 9, 2) := by decide +kernel
theorem dX6_apart_169 : decode cX6_apart 169 = .ok (.iload 9, 2) := by decide +kernel
theorem dX6_apart_171 : decode cX6_apart 171 = .ok (.iload 6, 2) := by decide +kernel
theorem dX6_apart_173 : decode cX6_apart 173 = .ok (.if_icmp .le 13, 3) := by decide +kernel
theorem dX6_apart_176 : decode cX6_apart 176 = .ok (.aload_n 0, 1) := by decide +kernel
theorem dX6_apart_177 : decode cX6_apart 177 = .ok (.getfield 38, 3) := by decide +kernel
theorem dX6_apart_180 : decode cX6_apart 180 = .ok (.iload 8, 2) := by decide +kernel
theorem dX6_apart_182 : decode cX6_apart 182 = .ok (.iaload, 1) := by decide +kernel
theorem dX6_apart_183 : decode cX6_apart 183 = .ok (.goto 5, 3) := by decide +kernel
theorem dX6_apart_186 : decode cX6_apart 186 = .ok (.iload 5, 2) := by decide +kernel
theorem dX6_apart_188 : decode cX6_apart 188 = .ok (.istore 5, 2) := by decide +kernel
theorem dX6_apart_190 : decode cX6_apart 190 = .ok (.iload 9, 2) := by decide +kernel
theorem dX6_apart_192 : decode cX6_apart 192 = .ok (.iload 6, 2) := by decide +kernel
theorem dX6_apart_194 : decode cX6_apart 194 = .ok (.if_icmp .le 8, 3) := by decide +kernel
theorem dX6_apart_197 : decode cX6_apart 197 = .ok (.iload 9, 2) := by decide +kernel
theorem dX6_apart_199 : decode cX6_apart 199 = .ok (.goto 5, 3) := by decide +kernel
theorem dX6_apart_202 : decode cX6_apart 202 = .ok (.iload 6, 2) := by decide +kernel
theorem dX6_apart_204 : decode cX6_apart 204 = .ok (.istore 6, 2) := by decide +kernel
theorem dX6_apart_206 : decode cX6_apart 206 = .ok (.iconst 0, 1) := by decide +kernel
theorem dX6_apart_207 : decode cX6_apart 207 = .ok (.istore 10, 2) := by decide +kernel
theorem dX6_apart_209 : decode cX6_apart 209 = .ok (.iload 10, 2) := by decide +kernel
theorem dX6_apart_211 : decode cX6_apart 211 = .ok (.aload_n 0, 1) := by decide +kernel
theorem dX6_apart_212 : decode cX6_apart 212 = .ok (.getfield 7, 3) := by decide +kernel
theorem dX6_apart_215 : decode cX6_apart 215 = .ok (.iconst 1, 1) := by decide +kernel
theorem dX6_apart_216 : decode cX6_apart 216 = .ok (.iaload, 1) := by decide +kernel
theorem dX6_apart_217 : decode cX6_apart 217 = .ok (.if_icmp .ge 77, 3) := by decide +kernel
theorem dX6_apart_220 : decode cX6_apart 220 = .ok (.bipush 8, 2) := by decide +kernel
theorem dX6_apart_222 : decode cX6_apart 222 = .ok (.aload_n 0, 1) := by decide +kernel
theorem dX6_apart_223 : decode cX6_apart 223 = .ok (.iload 10, 2) := by decide +kernel
theorem dX6_apart_225 : decode cX6_apart 225 = .ok (.iload 8, 2) := by decide +kernel
theorem dX6_apart_227 : decode cX6_apart 227 = .ok (.bipush 8, 2) := by decide +kernel
theorem dX6_apart_229 : decode cX6_apart 229 = .ok (.idiv, 1) := by decide +kernel
theorem dX6_apart_230 : decode cX6_apart 230 = .ok (.invokevirtual 67, 3) := by decide +kernel
theorem dX6_apart_233 : decode cX6_apart 233 = .ok (.imul, 1) := by decide +kernel
theorem dX6_apart_234 : decode cX6_apart 234 = .ok (.aload_n 0, 1) := by decide +kernel
theorem dX6_apart_235 : decode cX6_apart 235 = .ok (.iload 10, 2) := by decide +kernel
theorem dX6_apart_237 : decode cX6_apart 237 = .ok (.iload 8, 2) := by decide +kernel
theorem dX6_apart_239 : decode cX6_apart 239 = .ok (.bipush 8, 2) := by decide +kernel
theorem dX6_apart_241 : decode cX6_apart 241 = .ok (.irem, 1) := by decide +kernel
theorem dX6_apart_242 : decode cX6_apart 242 = .ok (.invokevirtual 67, 3) := by decide +kernel
theorem dX6_apart_245 : decode cX6_apart 245 = .ok (.iadd, 1) := by decide +kernel
theorem dX6_apart_246 : decode cX6_apart 246 = .ok (.istore 11, 2) := by decide +kernel
theorem dX6_apart_248 : decode cX6_apart 248 = .ok (.aload_n 0, 1) := by decide +kernel
theorem dX6_apart_249 : decode cX6_apart 249 = .ok (.getfield 38, 3) := by decide +kernel
theorem dX6_apart_252 : decode cX6_apart 252 = .ok (.iload 11, 2) := by decide +kernel
theorem dX6_apart_254 : decode cX6_apart 254 = .ok (.iaload, 1) := by decide +kernel
theorem dX6_apart_255 : decode cX6_apart 255 = .ok (.ldc 182, 2) := by decide +kernel
theorem dX6_apart_257 : decode cX6_apart 257 = .ok (.if_icmp .ne 31, 3) := by decide +kernel
theorem dX6_apart_260 : decode cX6_apart 260 = .ok (.aload_n 0, 1) := by decide +kernel
theorem dX6_apart_261 : decode cX6_apart 261 = .ok (.getfield 38, 3) := by decide +kernel
theorem dX6_apart_264 : decode cX6_apart 264 = .ok (.iload 11, 2) := by decide +kernel
theorem dX6_apart_266 : decode cX6_apart 266 = .ok (.aload_n 0, 1) := by decide +kernel
theorem dX6_apart_267 : decode cX6_apart 267 = .ok (.getfield 38, 3) := by decide +kernel
theorem dX6_apart_270 : decode cX6_apart 270 = .ok (.iload 8, 2) := by decide +kernel
theorem dX6_apart_272 : decode cX6_apart 272 = .ok (.iaload, 1) := by decide +kernel
theorem dX6_apart_273 : decode cX6_apart 273 = .ok (.iconst 1, 1) := by decide +kernel
theorem dX6_apart_274 : decode cX6_apart 274 = .ok (.iadd, 1) := by decide +kernel
theorem dX6_apart_275 : decode cX6_apart 275 = .ok (.iastore, 1) := by decide +kernel
theorem dX6_apart_276 : decode cX6_apart 276 = .ok (.aload_n 0, 1) := by decide +kernel
theorem dX6_apart_277 : decode cX6_apart 277 = .ok (.getfield 32, 3) := by decide +kernel
theorem dX6_apart_280 : decode cX6_apart 280 = .ok (.iload 4, 2) := by decide +kernel
theorem dX6_apart_282 : decode cX6_apart 282 = .ok (.iload 11, 2) := by decide +kernel
theorem dX6_apart_284 : decode cX6_apart 284 = .ok (.iastore, 1) := by decide +kernel
theorem dX6_apart_285 : decode cX6_apart 285 = .ok (.iinc 4 1, 3) := by decide +kernel
theorem dX6_apart_288 : decode cX6_apart 288 = .ok (.iinc 10 1, 3) := by decide +kernel
theorem dX6_apart_291 : decode cX6_apart 291 = .ok (.goto (-82), 3) := by decide +kernel
theorem dX6_apart_294 : decode cX6_apart 294 = .ok (.iinc 7 1, 3) := by decide +kernel
theorem dX6_apart_297 : decode cX6_apart 297 = .ok (.goto (-159), 3) := by decide +kernel
theorem dX6_apart_300 : decode cX6_apart 300 = .ok (.iload_n 3, 1) := by decide +kernel
theorem dX6_apart_301 : decode cX6_apart 301 = .ok (.ifCond .ne 8, 3) := by decide +kernel
theorem dX6_apart_304 : decode cX6_apart 304 = .ok (.iload 5, 2) := by decide +kernel
theorem dX6_apart_306 : decode cX6_apart 306 = .ok (.goto 5, 3) := by decide +kernel
theorem dX6_apart_309 : decode cX6_apart 309 = .ok (.iload 6, 2) := by decide +kernel
theorem dX6_apart_311 : decode cX6_apart 311 = .ok (.ireturn, 1) := by decide +kernel
theorem dX6_chance_0 : decode cX6_chance 0 = .ok (.aload_n 0, 1) := by decide +kernel
theorem dX6_chance_1 : decode cX6_chance 1 = .ok (.iload_n 1, 1) := by decide +kernel
theorem dX6_chance_2 : decode cX6_chance 2 = .ok (.invokevirtual 100, 3) := by decide +kernel
theorem dX6_chance_5 : decode cX6_chance 5 = .ok (.ifCond .eq 33, 3) := by decide +kernel
theorem dX6_chance_8 : decode cX6_chance 8 = .ok (.iload_n 2, 1) := by decide +kernel
theorem dX6_chance_9 : decode cX6_chance 9 = .ok (.invokestatic 74, 3) := by decide +kernel
theorem dX6_chance_12 : decode cX6_chance 12 = .ok (.ifCond .eq 26, 3) := by decide +kernel
theorem dX6_chance_15 : decode cX6_chance 15 = .ok (.iload_n 3, 1) := by decide +kernel
theorem dX6_chance_16 : decode cX6_chance 16 = .ok (.i2l, 1) := by decide +kernel
theorem dX6_chance_17 : decode cX6_chance 17 = .ok (.lconst 0, 1) := by decide +kernel
theorem dX6_chance_18 : decode cX6_chance 18 = .ok (.ldc2_w 197, 3) := by decide +kernel
theorem dX6_chance_21 : decode cX6_chance 21 = .ok (.invokestatic 52, 3) := by decide +kernel
theorem dX6_chance_24 : decode cX6_chance 24 = .ok (.ifCond .eq 14, 3) := by decide +kernel
theorem dX6_chance_27 : decode cX6_chance 27 = .ok (.iload 4, 2) := by decide +kernel
theorem dX6_chance_29 : decode cX6_chance 29 = .ok (.i2l, 1) := by decide +kernel
theorem dX6_chance_30 : decode cX6_chance 30 = .ok (.lconst 0, 1) := by decide +kernel
theorem dX6_chance_31 : decode cX6_chance 31 = .ok (.lconst 1, 1) := by decide +kernel
theorem dX6_chance_32 : decode cX6_chance 32 = .ok (.invokestatic 52, 3) := by decide +kernel
theorem dX6_chance_35 : decode cX6_chance 35 = .ok (.ifCond .ne 5, 3) := by decide +kernel
theorem dX6_chance_38 : decode cX6_chance 38 = .ok (.iconst (-1), 1) := by decide +kernel
theorem dX6_chance_39 : decode cX6_chance 39 = .ok (.ireturn, 1) := by decide +kernel
theorem dX6_chance_40 : decode cX6_chance 40 = .ok (.aload_n 0, 1) := by decide +kernel
theorem dX6_chance_41 : decode cX6_chance 41 = .ok (.getfield 7, 3) := by decide +kernel
theorem dX6_chance_44 : decode cX6_chance 44 = .ok (.iconst 5, 1) := by decide +kernel
theorem dX6_chance_45 : decode cX6_chance 45 = .ok (.iload_n 1, 1) := by decide +kernel
theorem dX6_chance_46 : decode cX6_chance 46 = .ok (.iadd, 1) := by decide +kernel
theorem dX6_chance_47 : decode cX6_chance 47 = .ok (.iaload, 1) := by decide +kernel
theorem dX6_chance_48 : decode cX6_chance 48 = .ok (.bipush (-4), 2) := by decide +kernel
theorem dX6_chance_50 : decode cX6_chance 50 = .ok (.if_icmp .eq 12, 3) := by decide +kernel
theorem dX6_chance_53 : decode cX6_chance 53 = .ok (.aload_n 0, 1) := by decide +kernel
theorem dX6_chance_54 : decode cX6_chance 54 = .ok (.getfield 7, 3) := by decide +kernel
theorem dX6_chance_57 : decode cX6_chance 57 = .ok (.iconst 1, 1) := by decide +kernel
theorem dX6_chance_58 : decode cX6_chance 58 = .ok (.iaload, 1) := by decide +kernel
theorem dX6_chance_59 : decode cX6_chance 59 = .ok (.ifCond .ne 6, 3) := by decide +kernel
theorem dX6_chance_62 : decode cX6_chance 62 = .ok (.bipush (-2), 2) := by decide +kernel
theorem dX6_chance_64 : decode cX6_chance 64 = .ok (.ireturn, 1) := by decide +kernel
theorem dX6_chance_65 : decode cX6_chance 65 = .ok (.lconst 1, 1) := by decide +kernel
theorem dX6_chance_66 : decode cX6_chance 66 = .ok (.lstore 5, 2) := by decide +kernel
theorem dX6_chance_68 : decode cX6_chance 68 = .ok (.iconst 0, 1) := by decide +kernel
theorem dX6_chance_69 : decode cX6_chance 69 = .ok (.istore 7, 2) := by decide +kernel
theorem dX6_chance_71 : decode cX6_chance 71 = .ok (.iload 7, 2) := by decide +kernel
theorem dX6_chance_73 : decode cX6_chance 73 = .ok (.bipush 8, 2) := by decide +kernel
theorem dX6_chance_75 : decode cX6_chance 75 = .ok (.if_icmp .ge 34, 3) := by decide +kernel
theorem dX6_chance_78 : decode cX6_chance 78 = .ok (.aload_n 0, 1) := by decide +kernel
theorem dX6_chance_79 : decode cX6_chance 79 = .ok (.getfield 41, 3) := by decide +kernel
theorem dX6_chance_82 : decode cX6_chance 82 = .ok (.iload 7, 2) := by decide +kernel
theorem dX6_chance_84 : decode cX6_chance 84 = .ok (.iload 7, 2) := by decide +kernel
theorem dX6_chance_86 : decode cX6_chance 86 = .ok (.aload_n 0, 1) := by decide +kernel
theorem dX6_chance_87 : decode cX6_chance 87 = .ok (.getfield 7, 3) := by decide +kernel
theorem dX6_chance_90 : decode cX6_chance 90 = .ok (.iconst 5, 1) := by decide +kernel
theorem dX6_chance_91 : decode cX6_chance 91 = .ok (.iload_n 1, 1) := by decide +kernel
theorem dX6_chance_92 : decode cX6_chance 92 = .ok (.iadd, 1) := by decide +kernel
theorem dX6_chance_93 : decode cX6_chance 93 = .ok (.iaload, 1) := by decide +kernel
theorem dX6_chance_94 : decode cX6_chance 94 = .ok (.if_icmp .ne 7, 3) := by decide +kernel
theorem dX6_chance_97 : decode cX6_chance 97 = .ok (.lconst 1, 1) := by decide +kernel
theorem dX6_chance_98 : decode cX6_chance 98 = .ok (.goto 4, 3) := by decide +kernel
theorem dX6_chance_101 : decode cX6_chance 101 = .ok (.lconst 0, 1) := by decide +kernel
theorem dX6_chance_102 : decode cX6_chance 102 = .ok (.lastore, 1) := by decide +kernel
theorem dX6_chance_103 : decode cX6_chance 103 = .ok (.iinc 7 1, 3) := by decide +kernel
theorem dX6_chance_106 : decode cX6_chance 106 = .ok (.goto (-35), 3) := by decide +kernel
theorem dX6_chance_109 : decode cX6_chance 109 = .ok (.iconst 0, 1) := by decide +kernel
theorem dX6_chance_110 : decode cX6_chance 110 = .ok (.istore 7, 2) := by decide +kernel
theorem dX6_chance_112 : decode cX6_chance 112 = .ok (.iload 7, 2) := by decide +kernel
theorem dX6_chance_114 : decode cX6_chance 114 = .ok (.iload_n 3, 1) := by decide +kernel
theorem dX6_chance_115 : decode cX6_chance 115 = .ok (.if_icmp .ge 134, 3) := by decide +kernel
theorem dX6_chance_118 : decode cX6_chance 118 = .ok (.lload 5, 2) := by decide +kernel
theorem dX6_chance_120 : decode cX6_chance 120 = .ok (.aload_n 0, 1) := by decide +kernel
theorem dX6_chance_121 : decode cX6_chance 121 = .ok (.getfield 7, 3) := by decide +kernel
theorem dX6_chance_124 : decode cX6_chance 124 = .ok (.iconst 1, 1) := by decide +kernel
theorem dX6_chance_125 : decode cX6_chance 125 = .ok (.iaload, 1) := by decide +kernel
theorem dX6_chance_126 : decode cX6_chance 126 = .ok (.i2l, 1) := by decide +kernel
theorem dX6_chance_127 : decode cX6_chance 127 = .ok (.lmul, 1) := by decide +kernel
theorem dX6_chance_128 : decode cX6_chance 128 = .ok (.lstore 5, 2) := by decide +kernel
theorem dX6_chance_130 : decode cX6_chance 130 = .ok (.iconst 0, 1) := by decide +kernel
theorem dX6_chance_131 : decode cX6_chance 131 = .ok (.istore 8, 2) := by decide +kernel
theorem dX6_chance_133 : decode cX6_chance 133 = .ok (.iload 8, 2) := by decide +kernel
theorem dX6_chance_135 : decode cX6_chance 135 = .ok (.bipush 8, 2) := by decide +kernel
theorem dX6_chance_137 : decode cX6_chance 137 = .ok (.if_icmp .ge 17, 3) := by decide +kernel
theorem dX6_chance_140 : decode cX6_chance 140 = .ok (.aload_n 0, 1) := by decide +kernel
theorem dX6_chance_141 : decode cX6_chance 141 = .ok (.getfield 44, 3) := by decide +kernel
theorem dX6_chance_144 : decode cX6_chance 144 = .ok (.iload 8, 2) := by decide +kernel
theorem dX6_chance_146 : decode cX6_chance 146 = .ok (.lconst 0, 1) := by decide +kernel
theorem dX6_chance_147 : decode cX6_chance 147 = .ok (.lastore, 1) := by decide +kernel
theorem dX6_chance_148 : decode cX6_chance 148 = .ok (.iinc 8 1, 3) := by decide +kernel
theorem dX6_chance_151 : decode cX6_chance 151 = .ok (.goto (-18), 3) := by decide +kernel
theorem dX6_chance_154 : decode cX6_chance 154 = .ok (.iconst 0, 1) := by decide +kernel
theorem dX6_chance_155 : decode cX6_chance 155 = .ok (.istore 8, 2) := by decide +kernel
theorem dX6_chance_157 : decode cX6_chance 157 = .ok (.iload 8, 2) := by decide +kernel
theorem dX6_chance_159 : decode cX6_chance 159 = .ok (.bipush 8, 2) := by decide +kernel
theorem dX6_chance_161 : decode cX6_chance 161 = .ok (.if_icmp .ge 52, 3) := by decide +kernel
theorem dX6_chance_164 : decode cX6_chance 164 = .ok (.iconst 0, 1) := by decide +kernel
theorem dX6_chance_165 : decode cX6_chance 165 = .ok (.istore 9, 2) := by decide +kernel
theorem dX6_chance_167 : decode cX6_chance 167 = .ok (.iload 9, 2) := by decide +kernel
theorem dX6_chance_169 : decode cX6_chance 169 = .ok (.aload_n 0, 1) := by decide +kernel
theorem dX6_chance_170 : decode cX6_chance 170 = .ok (.getfield 7, 3) := by decide +kernel
theorem dX6_chance_173 : decode cX6_chance 173 = .ok (.iconst 1, 1) := by decide +kernel
theorem dX6_chance_174 : decode cX6_chance 174 = .ok (.iaload, 1) := by decide +kernel
theorem dX6_chance_175 : decode cX6_chance 175 = .ok (.if_icmp .ge 32, 3) := by decide +kernel
theorem dX6_chance_178 : decode cX6_chance 178 = .ok (.aload_n 0, 1) := by decide +kernel
theorem dX6_chance_179 : decode cX6_chance 179 = .ok (.getfield 44, 3) := by decide +kernel
theorem dX6_chance_182 : decode cX6_chance 182 = .ok (.aload_n 0, 1) := by decide +kernel
theorem dX6_chance_183 : decode cX6_chance 183 = .ok (.iload 9, 2) := by decide +kernel
theorem dX6_chance_185 : decode cX6_chance 185 = .ok (.iload 8, 2) := by decide +kernel
theorem dX6_chance_187 : decode cX6_chance 187 = .ok (.invokevirtual 67, 3) := by decide +kernel
theorem dX6_chance_190 : decode cX6_chance 190 = .ok (.dup2, 1) := by decide +kernel
theorem dX6_chance_191 : decode cX6_chance 191 = .ok (.laload, 1) := by decide +kernel
theorem dX6_chance_192 : decode cX6_chance 192 = .ok (.aload_n 0, 1) := by decide +kernel
theorem dX6_chance_193 : decode cX6_chance 193 = .ok (.getfield 41, 3) := by decide +kernel
theorem dX6_chance_196 : decode cX6_chance 196 = .ok (.iload 8, 2) := by decide +kernel
theorem dX6_chance_198 : decode cX6_chance 198 = .ok (.laload, 1) := by decide +kernel
theorem dX6_chance_199 : decode cX6_chance 199 = .ok (.ladd, 1) := by decide +kernel
theorem dX6_chance_200 : decode cX6_chance 200 = .ok (.lastore, 1) := by decide +kernel
theorem dX6_chance_201 : decode cX6_chance 201 = .ok (.iinc 9 1, 3) := by decide +kernel
theorem dX6_chance_204 : decode cX6_chance 204 = .ok (.goto (-37), 3) := by decide +kernel
theorem dX6_chance_207 : decode cX6_chance 207 = .ok (.iinc 8 1, 3) := by decide +kernel
theorem dX6_chance_210 : decode cX6_chance 210 = .ok (.goto (-53), 3) := by decide +kernel
theorem dX6_chance_213 : decode cX6_chance 213 = .ok (.iconst 0, 1) := by decide +kernel
theorem dX6_chance_214 : decode cX6_chance 214 = .ok (.istore 8, 2) := by decide +kernel
theorem dX6_chance_216 : decode cX6_chance 216 = .ok (.iload 8, 2) := by decide +kernel
theorem dX6_chance_218 : decode cX6_chance 218 = .ok (.bipush 8, 2) := by decide +kernel
theorem dX6_chance_220 : decode cX6_chance 220 = .ok (.if_icmp .ge 23, 3) := by decide +kernel
theorem dX6_chance_223 : decode cX6_chance 223 = .ok (.aload_n 0, 1) := by decide +kernel
theorem dX6_chance_224 : decode cX6_chance 224 = .ok (.getfield 41, 3) := by decide +kernel
theorem dX6_chance_227 : decode cX6_chance 227 = .ok (.iload 8, 2) := by decide +kernel
theorem dX6_chance_229 : decode cX6_chance 229 = .ok (.aload_n 0, 1) := by decide +kernel
theorem dX6_chance_230 : decode cX6_chance 230 = .ok (.getfield 44, 3) := by decide +kernel
theorem dX6_chance_233 : decode cX6_chance 233 = .ok (.iload 8, 2) := by decide +kernel
theorem dX6_chance_235 : decode cX6_chance 235 = .ok (.laload, 1) := by decide +kernel
theorem dX6_chance_236 : decode cX6_chance 236 = .ok (.lastore, 1) := by decide +kernel
theorem dX6_chance_237 : decode cX6_chance 237 = .ok (.iinc 8 1, 3) := by decide +kernel
theorem dX6_chance_240 : decode cX6_chance 240 = .ok (.goto (-24), 3) := by decide +kernel
theorem dX6_chance_243 : decode cX6_chance 243 = .ok (.iinc 7 1, 3) := by decide +kernel
theorem dX6_chance_246 : decode cX6_chance 246 = .ok (.goto (-134), 3) := by decide +kernel
theorem dX6_chance_249 : decode cX6_chance 249 = .ok (.aload_n 0, 1) := by decide +kernel
theorem dX6_chance_250 : decode cX6_chance 250 = .ok (.getfield 41, 3) := by decide +kernel
theorem dX6_chance_253 : decode cX6_chance 253 = .ok (.iload_n 2, 1) := by decide +kernel
theorem dX6_chance_254 : decode cX6_chance 254 = .ok (.laload, 1) := by decide +kernel
theorem dX6_chance_255 : decode cX6_chance 255 = .ok (.lstore 7, 2) := by decide +kernel
theorem dX6_chance_257 : decode cX6_chance 257 = .ok (.lload 5, 2) := by decide +kernel
theorem dX6_chance_259 : decode cX6_chance 259 = .ok (.lstore 9, 2) := by decide +kernel
theorem dX6_chance_261 : decode cX6_chance 261 = .ok (.lload 9, 2) := by decide +kernel
theorem dX6_chance_263 : decode cX6_chance 263 = .ok (.lconst 0, 1) := by decide +kernel
theorem dX6_chance_264 : decode cX6_chance 264 = .ok (.lcmp, 1) := by decide +kernel
theorem dX6_chance_265 : decode cX6_chance 265 = .ok (.ifCond .eq 21, 3) := by decide +kernel
theorem dX6_chance_268 : decode cX6_chance 268 = .ok (.lload 7, 2) := by decide +kernel
theorem dX6_chance_270 : decode cX6_chance 270 = .ok (.lload 9, 2) := by decide +kernel
theorem dX6_chance_272 : decode cX6_chance 272 = .ok (.lrem, 1) := by decide +kernel
theorem dX6_chance_273 : decode cX6_chance 273 = .ok (.lstore 11, 2) := by decide +kernel
theorem dX6_chance_275 : decode cX6_chance 275 = .ok (.lload 9, 2) := by decide +kernel
theorem dX6_chance_277 : decode cX6_chance 277 = .ok (.lstore 7, 2) := by decide +kernel
theorem dX6_chance_279 : decode cX6_chance 279 = .ok (.lload 11, 2) := by decide +kernel
theorem dX6_chance_281 : decode cX6_chance 281 = .ok (.lstore 9, 2) := by decide +kernel
theorem dX6_chance_283 : decode cX6_chance 283 = .ok (.goto (-22), 3) := by decide +kernel
theorem dX6_chance_286 : decode cX6_chance 286 = .ok (.iload 4, 2) := by decide +kernel
theorem dX6_chance_288 : decode cX6_chance 288 = .ok (.ifCond .ne 15, 3) := by decide +kernel
theorem dX6_chance_291 : decode cX6_chance 291 = .ok (.aload_n 0, 1) := by decide +kernel
theorem dX6_chance_292 : decode cX6_chance 292 = .ok (.getfield 41, 3) := by decide +kernel
theorem dX6_chance_295 : decode cX6_chance 295 = .ok (.iload_n 2, 1) := by decide +kernel
theorem dX6_chance_296 : decode cX6_chance 296 = .ok (.laload, 1) := by decide +kernel
theorem dX6_chance_297 : decode cX6_chance 297 = .ok (.lload 7, 2) := by decide +kernel
theorem dX6_chance_299 : decode cX6_chance 299 = .ok (.ldiv, 1) := by decide +kernel
theorem dX6_chance_300 : decode cX6_chance 300 = .ok (.goto 8, 3) := by decide +kernel
theorem dX6_chance_303 : decode cX6_chance 303 = .ok (.lload 5, 2) := by decide +kernel
theorem dX6_chance_305 : decode cX6_chance 305 = .ok (.lload 7, 2) := by decide +kernel
theorem dX6_chance_307 : decode cX6_chance 307 = .ok (.ldiv, 1) := by decide +kernel
theorem dX6_chance_308 : decode cX6_chance 308 = .ok (.l2i, 1) := by decide +kernel
theorem dX6_chance_309 : decode cX6_chance 309 = .ok (.ireturn, 1) := by decide +kernel
theorem dX6_image_0 : decode cX6_image 0 = .ok (.aload_n 0, 1) := by decide +kernel
theorem dX6_image_1 : decode cX6_image 1 = .ok (.iconst 0, 1) := by decide +kernel
theorem dX6_image_2 : decode cX6_image 2 = .ok (.bipush 120, 2) := by decide +kernel
theorem dX6_image_4 : decode cX6_image 4 = .ok (.bipush 120, 2) := by decide +kernel
theorem dX6_image_6 : decode cX6_image 6 = .ok (.invokevirtual 139, 3) := by decide +kernel
theorem dX6_image_9 : decode cX6_image 9 = .ok (.aload_n 0, 1) := by decide +kernel
theorem dX6_image_10 : decode cX6_image 10 = .ok (.iconst 1, 1) := by decide +kernel
theorem dX6_image_11 : decode cX6_image 11 = .ok (.putfield 199, 3) := by decide +kernel
theorem dX6_image_14 : decode cX6_image 14 = .ok (.iconst 1, 1) := by decide +kernel
theorem dX6_image_15 : decode cX6_image 15 = .ok (.ireturn, 1) := by decide +kernel
theorem dX6_restore_0 : decode cX6_restore 0 = .ok (.aload_n 0, 1) := by decide +kernel
theorem dX6_restore_1 : decode cX6_restore 1 = .ok (.getfield 199, 3) := by decide +kernel
theorem dX6_restore_4 : decode cX6_restore 4 = .ok (.ifCond .ne 6, 3) := by decide +kernel
theorem dX6_restore_7 : decode cX6_restore 7 = .ok (.bipush (-4), 2) := by decide +kernel
theorem dX6_restore_9 : decode cX6_restore 9 = .ok (.ireturn, 1) := by decide +kernel
theorem dX6_restore_10 : decode cX6_restore 10 = .ok (.aload_n 0, 1) := by decide +kernel
theorem dX6_restore_11 : decode cX6_restore 11 = .ok (.bipush 120, 2) := by decide +kernel
theorem dX6_restore_13 : decode cX6_restore 13 = .ok (.iconst 0, 1) := by decide +kernel
theorem dX6_restore_14 : decode cX6_restore 14 = .ok (.bipush 120, 2) := by decide +kernel
theorem dX6_restore_16 : decode cX6_restore 16 = .ok (.invokevirtual 139, 3) := by decide +kernel
theorem dX6_restore_19 : decode cX6_restore 19 = .ok (.iconst 1, 1) := by decide +kernel
theorem dX6_restore_20 : decode cX6_restore 20 = .ok (.ireturn, 1) := by decide +kernel
theorem dX6_isSheet_0 : decode cX6_isSheet 0 = .ok (.iload_n 0, 1) := by decide +kernel
theorem dX6_isSheet_1 : decode cX6_isSheet 1 = .ok (.i2l, 1) := by decide +kernel
theorem dX6_isSheet_2 : decode cX6_isSheet 2 = .ok (.lconst 0, 1) := by decide +kernel
theorem dX6_isSheet_3 : decode cX6_isSheet 3 = .ok (.ldc2_w 203, 3) := by decide +kernel
theorem dX6_isSheet_6 : decode cX6_isSheet 6 = .ok (.invokestatic 52, 3) := by decide +kernel
theorem dX6_isSheet_9 : decode cX6_isSheet 9 = .ok (.ireturn, 1) := by decide +kernel
theorem dX6_isLane_0 : decode cX6_isLane 0 = .ok (.iload_n 0, 1) := by decide +kernel
theorem dX6_isLane_1 : decode cX6_isLane 1 = .ok (.invokestatic 205, 3) := by decide +kernel
theorem dX6_isLane_4 : decode cX6_isLane 4 = .ok (.ifCond .eq 19, 3) := by decide +kernel
theorem dX6_isLane_7 : decode cX6_isLane 7 = .ok (.iload_n 1, 1) := by decide +kernel
theorem dX6_isLane_8 : decode cX6_isLane 8 = .ok (.i2l, 1) := by decide +kernel
theorem dX6_isLane_9 : decode cX6_isLane 9 = .ok (.lconst 0, 1) := by decide +kernel
theorem dX6_isLane_10 : decode cX6_isLane 10 = .ok (.ldc2_w 203, 3) := by decide +kernel
theorem dX6_isLane_13 : decode cX6_isLane 13 = .ok (.invokestatic 52, 3) := by decide +kernel
theorem dX6_isLane_16 : decode cX6_isLane 16 = .ok (.ifCond .eq 7, 3) := by decide +kernel
theorem dX6_isLane_19 : decode cX6_isLane 19 = .ok (.iconst 1, 1) := by decide +kernel
theorem dX6_isLane_20 : decode cX6_isLane 20 = .ok (.goto 4, 3) := by decide +kernel
theorem dX6_isLane_23 : decode cX6_isLane 23 = .ok (.iconst 0, 1) := by decide +kernel
theorem dX6_isLane_24 : decode cX6_isLane 24 = .ok (.ireturn, 1) := by decide +kernel
theorem dX6_against_0 : decode cX6_against 0 = .ok (.aload_n 0, 1) := by decide +kernel
theorem dX6_against_1 : decode cX6_against 1 = .ok (.getfield 20, 3) := by decide +kernel
theorem dX6_against_4 : decode cX6_against 4 = .ok (.iload_n 1, 1) := by decide +kernel
theorem dX6_against_5 : decode cX6_against 5 = .ok (.iaload, 1) := by decide +kernel
theorem dX6_against_6 : decode cX6_against 6 = .ok (.ifCond .ge 6, 3) := by decide +kernel
theorem dX6_against_9 : decode cX6_against 9 = .ok (.bipush (-11), 2) := by decide +kernel
theorem dX6_against_11 : decode cX6_against 11 = .ok (.ireturn, 1) := by decide +kernel
theorem dX6_against_12 : decode cX6_against 12 = .ok (.aload_n 0, 1) := by decide +kernel
theorem dX6_against_13 : decode cX6_against 13 = .ok (.getfield 23, 3) := by decide +kernel
theorem dX6_against_16 : decode cX6_against 16 = .ok (.iload_n 1, 1) := by decide +kernel
theorem dX6_against_17 : decode cX6_against 17 = .ok (.iaload, 1) := by decide +kernel
theorem dX6_against_18 : decode cX6_against 18 = .ok (.iload_n 2, 1) := by decide +kernel
theorem dX6_against_19 : decode cX6_against 19 = .ok (.if_icmp .eq 6, 3) := by decide +kernel
theorem dX6_against_22 : decode cX6_against 22 = .ok (.bipush (-12), 2) := by decide +kernel
theorem dX6_against_24 : decode cX6_against 24 = .ok (.ireturn, 1) := by decide +kernel
theorem dX6_against_25 : decode cX6_against 25 = .ok (.iload_n 3, 1) := by decide +kernel
theorem dX6_against_26 : decode cX6_against 26 = .ok (.ifCond .lt 25, 3) := by decide +kernel
theorem dX6_against_29 : decode cX6_against 29 = .ok (.iload 4, 2) := by decide +kernel
theorem dX6_against_31 : decode cX6_against 31 = .ok (.ifCond .lt 20, 3) := by decide +kernel
theorem dX6_against_34 : decode cX6_against 34 = .ok (.iload_n 3, 1) := by decide +kernel
theorem dX6_against_35 : decode cX6_against 35 = .ok (.i2l, 1) := by decide +kernel
theorem dX6_against_36 : decode cX6_against 36 = .ok (.iload 4, 2) := by decide +kernel
theorem dX6_against_38 : decode cX6_against 38 = .ok (.i2l, 1) := by decide +kernel
theorem dX6_against_39 : decode cX6_against 39 = .ok (.ladd, 1) := by decide +kernel
theorem dX6_against_40 : decode cX6_against 40 = .ok (.aload_n 0, 1) := by decide +kernel
theorem dX6_against_41 : decode cX6_against 41 = .ok (.getfield 20, 3) := by decide +kernel
theorem dX6_against_44 : decode cX6_against 44 = .ok (.iload_n 1, 1) := by decide +kernel
theorem dX6_against_45 : decode cX6_against 45 = .ok (.iaload, 1) := by decide +kernel
theorem dX6_against_46 : decode cX6_against 46 = .ok (.i2l, 1) := by decide +kernel
theorem dX6_against_47 : decode cX6_against 47 = .ok (.lcmp, 1) := by decide +kernel
theorem dX6_against_48 : decode cX6_against 48 = .ok (.ifCond .le 8, 3) := by decide +kernel
theorem dX6_against_51 : decode cX6_against 51 = .ok (.bipush (-13), 2) := by decide +kernel
theorem dX6_against_53 : decode cX6_against 53 = .ok (.goto 4, 3) := by decide +kernel
theorem dX6_against_56 : decode cX6_against 56 = .ok (.iconst 0, 1) := by decide +kernel
theorem dX6_against_57 : decode cX6_against 57 = .ok (.ireturn, 1) := by decide +kernel
theorem dX6_lowest_0 : decode cX6_lowest 0 = .ok (.iload_n 0, 1) := by decide +kernel
theorem dX6_lowest_1 : decode cX6_lowest 1 = .ok (.ifCond .ne 10, 3) := by decide +kernel
theorem dX6_lowest_4 : decode cX6_lowest 4 = .ok (.lload_n 1, 1) := by decide +kernel
theorem dX6_lowest_5 : decode cX6_lowest 5 = .ok (.l2i, 1) := by decide +kernel
theorem dX6_lowest_6 : decode cX6_lowest 6 = .ok (.i2b, 1) := by decide +kernel
theorem dX6_lowest_7 : decode cX6_lowest 7 = .ok (.i2l, 1) := by decide +kernel
theorem dX6_lowest_8 : decode cX6_lowest 8 = .ok (.goto 27, 3) := by decide +kernel
theorem dX6_lowest_11 : decode cX6_lowest 11 = .ok (.iload_n 0, 1) := by decide +kernel
theorem dX6_lowest_12 : decode cX6_lowest 12 = .ok (.iconst 1, 1) := by decide +kernel
theorem dX6_lowest_13 : decode cX6_lowest 13 = .ok (.if_icmp .ne 10, 3) := by decide +kernel
theorem dX6_lowest_16 : decode cX6_lowest 16 = .ok (.lload_n 1, 1) := by decide +kernel
theorem dX6_lowest_17 : decode cX6_lowest 17 = .ok (.l2i, 1) := by decide +kernel
theorem dX6_lowest_18 : decode cX6_lowest 18 = .ok (.i2s, 1) := by decide +kernel
theorem dX6_lowest_19 : decode cX6_lowest 19 = .ok (.i2l, 1) := by decide +kernel
theorem dX6_lowest_20 : decode cX6_lowest 20 = .ok (.goto 15, 3) := by decide +kernel
theorem dX6_lowest_23 : decode cX6_lowest 23 = .ok (.iload_n 0, 1) := by decide +kernel
theorem dX6_lowest_24 : decode cX6_lowest 24 = .ok (.iconst 2, 1) := by decide +kernel
theorem dX6_lowest_25 : decode cX6_lowest 25 = .ok (.if_icmp .ne 9, 3) := by decide +kernel
theorem dX6_lowest_28 : decode cX6_lowest 28 = .ok (.lload_n 1, 1) := by decide +kernel
theorem dX6_lowest_29 : decode cX6_lowest 29 = .ok (.l2i, 1) := by decide +kernel
theorem dX6_lowest_30 : decode cX6_lowest 30 = .ok (.i2l, 1) := by decide +kernel
theorem dX6_lowest_31 : decode cX6_lowest 31 = .ok (.goto 4, 3) := by decide +kernel
theorem dX6_lowest_34 : decode cX6_lowest 34 = .ok (.lload_n 1, 1) := by decide +kernel
theorem dX6_lowest_35 : decode cX6_lowest 35 = .ok (.lreturn, 1) := by decide +kernel
theorem dX6_counts_0 : decode cX6_counts 0 = .ok (.iload_n 1, 1) := by decide +kernel
theorem dX6_counts_1 : decode cX6_counts 1 = .ok (.invokestatic 74, 3) := by decide +kernel
theorem dX6_counts_4 : decode cX6_counts 4 = .ok (.ifCond .eq 37, 3) := by decide +kernel
theorem dX6_counts_7 : decode cX6_counts 7 = .ok (.iload_n 2, 1) := by decide +kernel
theorem dX6_counts_8 : decode cX6_counts 8 = .ok (.iload_n 3, 1) := by decide +kernel
theorem dX6_counts_9 : decode cX6_counts 9 = .ok (.invokestatic 208, 3) := by decide +kernel
theorem dX6_counts_12 : decode cX6_counts 12 = .ok (.ifCond .eq 29, 3) := by decide +kernel
theorem dX6_counts_15 : decode cX6_counts 15 = .ok (.iload 5, 2) := by decide +kernel
theorem dX6_counts_17 : decode cX6_counts 17 = .ok (.i2l, 1) := by decide +kernel
theorem dX6_counts_18 : decode cX6_counts 18 = .ok (.lconst 1, 1) := by decide +kernel
theorem dX6_counts_19 : decode cX6_counts 19 = .ok (.ldc2_w 197, 3) := by decide +kernel
theorem dX6_counts_22 : decode cX6_counts 22 = .ok (.invokestatic 52, 3) := by decide +kernel
theorem dX6_counts_25 : decode cX6_counts 25 = .ok (.ifCond .eq 16, 3) := by decide +kernel
theorem dX6_counts_28 : decode cX6_counts 28 = .ok (.iload 6, 2) := by decide +kernel
theorem dX6_counts_30 : decode cX6_counts 30 = .ok (.i2l, 1) := by decide +kernel
theorem dX6_counts_31 : decode cX6_counts 31 = .ok (.lconst 0, 1) := by decide +kernel
theorem dX6_counts_32 : decode cX6_counts 32 = .ok (.ldc2_w 211, 3) := by decide +kernel
theorem dX6_counts_35 : decode cX6_counts 35 = .ok (.invokestatic 52, 3) := by decide +kernel
theorem dX6_counts_38 : decode cX6_counts 38 = .ok (.ifCond .ne 5, 3) := by decide +kernel
theorem dX6_counts_41 : decode cX6_counts 41 = .ok (.iconst (-1), 1) := by decide +kernel
theorem dX6_counts_42 : decode cX6_counts 42 = .ok (.ireturn, 1) := by decide +kernel
theorem dX6_counts_43 : decode cX6_counts 43 = .ok (.aload_n 0, 1) := by decide +kernel
theorem dX6_counts_44 : decode cX6_counts 44 = .ok (.iload_n 2, 1) := by decide +kernel
theorem dX6_counts_45 : decode cX6_counts 45 = .ok (.iload_n 3, 1) := by decide +kernel
theorem dX6_counts_46 : decode cX6_counts 46 = .ok (.iload 4, 2) := by decide +kernel
theorem dX6_counts_48 : decode cX6_counts 48 = .ok (.iload 5, 2) := by decide +kernel
theorem dX6_counts_50 : decode cX6_counts 50 = .ok (.invokevirtual 213, 3) := by decide +kernel
theorem dX6_counts_53 : decode cX6_counts 53 = .ok (.istore 7, 2) := by decide +kernel
theorem dX6_counts_55 : decode cX6_counts 55 = .ok (.iload 7, 2) := by decide +kernel
theorem dX6_counts_57 : decode cX6_counts 57 = .ok (.ifCond .ge 6, 3) := by decide +kernel
theorem dX6_counts_60 : decode cX6_counts 60 = .ok (.iload 7, 2) := by decide +kernel
theorem dX6_counts_62 : decode cX6_counts 62 = .ok (.ireturn, 1) := by decide +kernel
theorem dX6_counts_63 : decode cX6_counts 63 = .ok (.iconst 0, 1) := by decide +kernel
theorem dX6_counts_64 : decode cX6_counts 64 = .ok (.istore 8, 2) := by decide +kernel
theorem dX6_counts_66 : decode cX6_counts 66 = .ok (.ldc 182, 2) := by decide +kernel
theorem dX6_counts_68 : decode cX6_counts 68 = .ok (.istore 9, 2) := by decide +kernel
theorem dX6_counts_70 : decode cX6_counts 70 = .ok (.bipush (-4), 2) := by decide +kernel
theorem dX6_counts_72 : decode cX6_counts 72 = .ok (.istore 10, 2) := by decide +kernel
theorem dX6_counts_74 : decode cX6_counts 74 = .ok (.iconst 0, 1) := by decide +kernel
theorem dX6_counts_75 : decode cX6_counts 75 = .ok (.istore 11, 2) := by decide +kernel
theorem dX6_counts_77 : decode cX6_counts 77 = .ok (.iload 11, 2) := by decide +kernel
theorem dX6_counts_79 : decode cX6_counts 79 = .ok (.sipush 256, 3) := by decide +kernel
theorem dX6_counts_82 : decode cX6_counts 82 = .ok (.if_icmp .ge 141, 3) := by decide +kernel
theorem dX6_counts_85 : decode cX6_counts 85 = .ok (.iconst 1, 1) := by decide +kernel
theorem dX6_counts_86 : decode cX6_counts 86 = .ok (.istore 12, 2) := by decide +kernel
theorem dX6_counts_88 : decode cX6_counts 88 = .ok (.iconst 0, 1) := by decide +kernel
theorem dX6_counts_89 : decode cX6_counts 89 = .ok (.istore 13, 2) := by decide +kernel
theorem dX6_counts_91 : decode cX6_counts 91 = .ok (.iload 13, 2) := by decide +kernel
theorem dX6_counts_93 : decode cX6_counts 93 = .ok (.iload 5, 2) := by decide +kernel
theorem dX6_counts_95 : decode cX6_counts 95 = .ok (.if_icmp .ge 53, 3) := by decide +kernel
theorem dX6_counts_98 : decode cX6_counts 98 = .ok (.iload 12, 2) := by decide +kernel
theorem dX6_counts_100 : decode cX6_counts 100 = .ok (.ifCond .eq 48, 3) := by decide +kernel
theorem dX6_counts_103 : decode cX6_counts 103 = .ok (.iload 11, 2) := by decide +kernel
theorem dX6_counts_105 : decode cX6_counts 105 = .ok (.iload_n 1, 1) := by decide +kernel
theorem dX6_counts_106 : decode cX6_counts 106 = .ok (.iload 13, 2) := by decide +kernel
theorem dX6_counts_108 : decode cX6_counts 108 = .ok (.iadd, 1) := by decide +kernel
theorem dX6_counts_109 : decode cX6_counts 109 = .ok (.bipush 8, 2) := by decide +kernel
theorem dX6_counts_111 : decode cX6_counts 111 = .ok (.irem, 1) := by decide +kernel
theorem dX6_counts_112 : decode cX6_counts 112 = .ok (.invokestatic 103, 3) := by decide +kernel
theorem dX6_counts_115 : decode cX6_counts 115 = .ok (.i2l, 1) := by decide +kernel
theorem dX6_counts_116 : decode cX6_counts 116 = .ok (.aload_n 0, 1) := by decide +kernel
theorem dX6_counts_117 : decode cX6_counts 117 = .ok (.getfield 16, 3) := by decide +kernel
theorem dX6_counts_120 : decode cX6_counts 120 = .ok (.bipush 24, 2) := by decide +kernel
theorem dX6_counts_122 : decode cX6_counts 122 = .ok (.iload_n 2, 1) := by decide +kernel
theorem dX6_counts_123 : decode cX6_counts 123 = .ok (.imul, 1) := by decide +kernel
theorem dX6_counts_124 : decode cX6_counts 124 = .ok (.iload 4, 2) := by decide +kernel
theorem dX6_counts_126 : decode cX6_counts 126 = .ok (.iadd, 1) := by decide +kernel
theorem dX6_counts_127 : decode cX6_counts 127 = .ok (.iload 13, 2) := by decide +kernel
theorem dX6_counts_129 : decode cX6_counts 129 = .ok (.iadd, 1) := by decide +kernel
theorem dX6_counts_130 : decode cX6_counts 130 = .ok (.laload, 1) := by decide +kernel
theorem dX6_counts_131 : decode cX6_counts 131 = .ok (.lcmp, 1) := by decide +kernel
theorem dX6_counts_132 : decode cX6_counts 132 = .ok (.ifCond .ne 7, 3) := by decide +kernel
theorem dX6_counts_135 : decode cX6_counts 135 = .ok (.iconst 1, 1) := by decide +kernel
theorem dX6_counts_136 : decode cX6_counts 136 = .ok (.goto 4, 3) := by decide +kernel
theorem dX6_counts_139 : decode cX6_counts 139 = .ok (.iconst 0, 1) := by decide +kernel
theorem dX6_counts_140 : decode cX6_counts 140 = .ok (.istore 12, 2) := by decide +kernel
theorem dX6_counts_142 : decode cX6_counts 142 = .ok (.iinc 13 1, 3) := by decide +kernel
theorem dX6_counts_145 : decode cX6_counts 145 = .ok (.goto (-54), 3) := by decide +kernel
theorem dX6_counts_148 : decode cX6_counts 148 = .ok (.iload 8, 2) := by decide +kernel
theorem dX6_counts_150 : decode cX6_counts 150 = .ok (.iload 12, 2) := by decide +kernel
theorem dX6_counts_152 : decode cX6_counts 152 = .ok (.ifCond .eq 7, 3) := by decide +kernel
theorem dX6_counts_155 : decode cX6_counts 155 = .ok (.iconst 1, 1) := by decide +kernel
theorem dX6_counts_156 : decode cX6_counts 156 = .ok (.goto 4, 3) := by decide +kernel
theorem dX6_counts_159 : decode cX6_counts 159 = .ok (.iconst 0, 1) := by decide +kernel
theorem dX6_counts_160 : decode cX6_counts 160 = .ok (.iadd, 1) := by decide +kernel
theorem dX6_counts_161 : decode cX6_counts 161 = .ok (.istore 8, 2) := by decide +kernel
theorem dX6_counts_163 : decode cX6_counts 163 = .ok (.iload 12, 2) := by decide +kernel
theorem dX6_counts_165 : decode cX6_counts 165 = .ok (.ifCond .eq 21, 3) := by decide +kernel
theorem dX6_counts_168 : decode cX6_counts 168 = .ok (.iload 11, 2) := by decide +kernel
theorem dX6_counts_170 : decode cX6_counts 170 = .ok (.invokestatic 158, 3) := by decide +kernel
theorem dX6_counts_173 : decode cX6_counts 173 = .ok (.iload 9, 2) := by decide +kernel
theorem dX6_counts_175 : decode cX6_counts 175 = .ok (.if_icmp .ge 11, 3) := by decide +kernel
theorem dX6_counts_178 : decode cX6_counts 178 = .ok (.iload 11, 2) := by decide +kernel
theorem dX6_counts_180 : decode cX6_counts 180 = .ok (.invokestatic 158, 3) := by decide +kernel
theorem dX6_counts_183 : decode cX6_counts 183 = .ok (.goto 5, 3) := by decide +kernel
theorem dX6_counts_186 : decode cX6_counts 186 = .ok (.iload 9, 2) := by decide +kernel
theorem dX6_counts_188 : decode cX6_counts 188 = .ok (.istore 9, 2) := by decide +kernel
theorem dX6_counts_190 : decode cX6_counts 190 = .ok (.iload 12, 2) := by decide +kernel
theorem dX6_counts_192 : decode cX6_counts 192 = .ok (.ifCond .eq 21, 3) := by decide +kernel
theorem dX6_counts_195 : decode cX6_counts 195 = .ok (.iload 11, 2) := by decide +kernel
theorem dX6_counts_197 : decode cX6_counts 197 = .ok (.invokestatic 158, 3) := by decide +kernel
theorem dX6_counts_200 : decode cX6_counts 200 = .ok (.iload 10, 2) := by decide +kernel
theorem dX6_counts_202 : decode cX6_counts 202 = .ok (.if_icmp .le 11, 3) := by decide +kernel
theorem dX6_counts_205 : decode cX6_counts 205 = .ok (.iload 11, 2) := by decide +kernel
theorem dX6_counts_207 : decode cX6_counts 207 = .ok (.invokestatic 158, 3) := by decide +kernel
theorem dX6_counts_210 : decode cX6_counts 210 = .ok (.goto 5, 3) := by decide +kernel
theorem dX6_counts_213 : decode cX6_counts 213 = .ok (.iload 10, 2) := by decide +kernel
theorem dX6_counts_215 : decode cX6_counts 215 = .ok (.istore 10, 2) := by decide +kernel
theorem dX6_counts_217 : decode cX6_counts 217 = .ok (.iinc 11 1, 3) := by decide +kernel
theorem dX6_counts_220 : decode cX6_counts 220 = .ok (.goto (-143), 3) := by decide +kernel
theorem dX6_counts_223 : decode cX6_counts 223 = .ok (.iload 6, 2) := by decide +kernel
theorem dX6_counts_225 : decode cX6_counts 225 = .ok (.ifCond .ne 8, 3) := by decide +kernel
theorem dX6_counts_228 : decode cX6_counts 228 = .ok (.iload 8, 2) := by decide +kernel
theorem dX6_counts_230 : decode cX6_counts 230 = .ok (.goto 26, 3) := by decide +kernel
theorem dX6_counts_233 : decode cX6_counts 233 = .ok (.iload 8, 2) := by decide +kernel
theorem dX6_counts_235 : decode cX6_counts 235 = .ok (.ifCond .ne 8, 3) := by decide +kernel
theorem dX6_counts_238 : decode cX6_counts 238 = .ok (.bipush (-4), 2) := by decide +kernel
theorem dX6_counts_240 : decode cX6_counts 240 = .ok (.goto 16, 3) := by decide +kernel
theorem dX6_counts_243 : decode cX6_counts 243 = .ok (.iload 6, 2) := by decide +kernel
theorem dX6_counts_245 : decode cX6_counts 245 = .ok (.iconst 1, 1) := by decide +kernel
theorem dX6_counts_246 : decode cX6_counts 246 = .ok (.if_icmp .ne 8, 3) := by decide +kernel
theorem dX6_counts_249 : decode cX6_counts 249 = .ok (.iload 9, 2) := by decide +kernel
theorem dX6_counts_251 : decode cX6_counts 251 = .ok (.goto 5, 3) := by decide +kernel
theorem dX6_counts_254 : decode cX6_counts 254 = .ok (.iload 10, 2) := by decide +kernel
theorem dX6_counts_256 : decode cX6_counts 256 = .ok (.ireturn, 1) := by decide +kernel
theorem dX6_steps_0 : decode cX6_steps 0 = .ok (.aload_n 0, 1) := by decide +kernel
theorem dX6_steps_1 : decode cX6_steps 1 = .ok (.iload_n 1, 1) := by decide +kernel
theorem dX6_steps_2 : decode cX6_steps 2 = .ok (.invokevirtual 100, 3) := by decide +kernel
theorem dX6_steps_5 : decode cX6_steps 5 = .ok (.ifCond .eq 44, 3) := by decide +kernel
theorem dX6_steps_8 : decode cX6_steps 8 = .ok (.aload_n 0, 1) := by decide +kernel
theorem dX6_steps_9 : decode cX6_steps 9 = .ok (.iload_n 2, 1) := by decide +kernel
theorem dX6_steps_10 : decode cX6_steps 10 = .ok (.invokevirtual 87, 3) := by decide +kernel
theorem dX6_steps_13 : decode cX6_steps 13 = .ok (.ifCond .eq 36, 3) := by decide +kernel
theorem dX6_steps_16 : decode cX6_steps 16 = .ok (.iload_n 3, 1) := by decide +kernel
theorem dX6_steps_17 : decode cX6_steps 17 = .ok (.iload 4, 2) := by decide +kernel
theorem dX6_steps_19 : decode cX6_steps 19 = .ok (.invokestatic 208, 3) := by decide +kernel
theorem dX6_steps_22 : decode cX6_steps 22 = .ok (.ifCond .eq 27, 3) := by decide +kernel
theorem dX6_steps_25 : decode cX6_steps 25 = .ok (.iload 6, 2) := by decide +kernel
theorem dX6_steps_27 : decode cX6_steps 27 = .ok (.i2l, 1) := by decide +kernel
theorem dX6_steps_28 : decode cX6_steps 28 = .ok (.lconst 1, 1) := by decide +kernel
theorem dX6_steps_29 : decode cX6_steps 29 = .ok (.ldc2_w 197, 3) := by decide +kernel
theorem dX6_steps_32 : decode cX6_steps 32 = .ok (.invokestatic 52, 3) := by decide +kernel
theorem dX6_steps_35 : decode cX6_steps 35 = .ok (.ifCond .eq 14, 3) := by decide +kernel
theorem dX6_steps_38 : decode cX6_steps 38 = .ok (.iload 7, 2) := by decide +kernel
theorem dX6_steps_40 : decode cX6_steps 40 = .ok (.i2l, 1) := by decide +kernel
theorem dX6_steps_41 : decode cX6_steps 41 = .ok (.lconst 0, 1) := by decide +kernel
theorem dX6_steps_42 : decode cX6_steps 42 = .ok (.lconst 1, 1) := by decide +kernel
theorem dX6_steps_43 : decode cX6_steps 43 = .ok (.invokestatic 52, 3) := by decide +kernel
theorem dX6_steps_46 : decode cX6_steps 46 = .ok (.ifCond .ne 5, 3) := by decide +kernel
theorem dX6_steps_49 : decode cX6_steps 49 = .ok (.iconst (-1), 1) := by decide +kernel
theorem dX6_steps_50 : decode cX6_steps 50 = .ok (.ireturn, 1) := by decide +kernel
theorem dX6_steps_51 : decode cX6_steps 51 = .ok (.aload_n 0, 1) := by decide +kernel
theorem dX6_steps_52 : decode cX6_steps 52 = .ok (.iload_n 3, 1) := by decide +kernel
theorem dX6_steps_53 : decode cX6_steps 53 = .ok (.iload 4, 2) := by decide +kernel
theorem dX6_steps_55 : decode cX6_steps 55 = .ok (.iload 5, 2) := by decide +kernel
theorem dX6_steps_57 : decode cX6_steps 57 = .ok (.iload 6, 2) := by decide +kernel
theorem dX6_steps_59 : decode cX6_steps 59 = .ok (.invokevirtual 213, 3) := by decide +kernel
theorem dX6_steps_62 : decode cX6_steps 62 = .ok (.istore 8, 2) := by decide +kernel
theorem dX6_steps_64 : decode cX6_steps 64 = .ok (.iload 8, 2) := by decide +kernel
theorem dX6_steps_66 : decode cX6_steps 66 = .ok (.ifCond .ge 6, 3) := by decide +kernel
theorem dX6_steps_69 : decode cX6_steps 69 = .ok (.iload 8, 2) := by decide +kernel
theorem dX6_steps_71 : decode cX6_steps 71 = .ok (.ireturn, 1) := by decide +kernel
theorem dX6_steps_72 : decode cX6_steps 72 = .ok (.aload_n 0, 1) := by decide +kernel
theorem dX6_steps_73 : decode cX6_steps 73 = .ok (.getfield 7, 3) := by decide +kernel
theorem dX6_steps_76 : decode cX6_steps 76 = .ok (.iconst 5, 1) := by decide +kernel
theorem dX6_steps_77 : decode cX6_steps 77 = .ok (.iload_n 1, 1) := by decide +kernel
theorem dX6_steps_78 : decode cX6_steps 78 = .ok (.iadd, 1) := by decide +kernel
theorem dX6_steps_79 : decode cX6_steps 79 = .ok (.iaload, 1) := by decide +kernel
theorem dX6_steps_80 : decode cX6_steps 80 = .ok (.bipush (-4), 2) := by decide +kernel
theorem dX6_steps_82 : decode cX6_steps 82 = .ok (.if_icmp .ne 6, 3) := by decide +kernel
theorem dX6_steps_85 : decode cX6_steps 85 = .ok (.bipush (-2), 2) := by decide +kernel
theorem dX6_steps_87 : decode cX6_steps 87 = .ok (.ireturn, 1) := by decide +kernel
theorem dX6_steps_88 : decode cX6_steps 88 = .ok (.iload 7, 2) := by decide +kernel
theorem dX6_steps_90 : decode cX6_steps 90 = .ok (.ifCond .ne 10, 3) := by decide +kernel
theorem dX6_steps_93 : decode cX6_steps 93 = .ok (.bipush 13, 2) := by decide +kernel
theorem dX6_steps_95 : decode cX6_steps 95 = .ok (.iload_n 2, 1) := by decide +kernel
theorem dX6_steps_96 : decode cX6_steps 96 = .ok (.iadd, 1) := by decide +kernel
theorem dX6_steps_97 : decode cX6_steps 97 = .ok (.goto 7, 3) := by decide +kernel
theorem dX6_steps_100 : decode cX6_steps 100 = .ok (.bipush 18, 2) := by decide +kernel
theorem dX6_steps_102 : decode cX6_steps 102 = .ok (.iload_n 2, 1) := by decide +kernel
theorem dX6_steps_103 : decode cX6_steps 103 = .ok (.iadd, 1) := by decide +kernel
theorem dX6_steps_104 : decode cX6_steps 104 = .ok (.istore 9, 2) := by decide +kernel
theorem dX6_steps_106 : decode cX6_steps 106 = .ok (.aload_n 0, 1) := by decide +kernel
theorem dX6_steps_107 : decode cX6_steps 107 = .ok (.getfield 7, 3) := by decide +kernel
theorem dX6_steps_110 : decode cX6_steps 110 = .ok (.iload 9, 2) := by decide +kernel
theorem dX6_steps_112 : decode cX6_steps 112 = .ok (.iaload, 1) := by decide +kernel
theorem dX6_steps_113 : decode cX6_steps 113 = .ok (.istore 10, 2) := by decide +kernel
theorem dX6_steps_115 : decode cX6_steps 115 = .ok (.iconst 0, 1) := by decide +kernel
theorem dX6_steps_116 : decode cX6_steps 116 = .ok (.istore 11, 2) := by decide +kernel
theorem dX6_steps_118 : decode cX6_steps 118 = .ok (.iconst 0, 1) := by decide +kernel
theorem dX6_steps_119 : decode cX6_steps 119 = .ok (.istore 12, 2) := by decide +kernel
theorem dX6_steps_121 : decode cX6_steps 121 = .ok (.iload 12, 2) := by decide +kernel
theorem dX6_steps_123 : decode cX6_steps 123 = .ok (.iload 7, 2) := by decide +kernel
theorem dX6_steps_125 : decode cX6_steps 125 = .ok (.ifCond .ne 7, 3) := by decide +kernel
theorem dX6_steps_128 : decode cX6_steps 128 = .ok (.iconst 4, 1) := by decide +kernel
theorem dX6_steps_129 : decode cX6_steps 129 = .ok (.goto 5, 3) := by decide +kernel
theorem dX6_steps_132 : decode cX6_steps 132 = .ok (.bipush 7, 2) := by decide +kernel
theorem dX6_steps_134 : decode cX6_steps 134 = .ok (.if_icmp .gt 145, 3) := by decide +kernel
theorem dX6_steps_137 : decode cX6_steps 137 = .ok (.aload_n 0, 1) := by decide +kernel
theorem dX6_steps_138 : decode cX6_steps 138 = .ok (.getfield 7, 3) := by decide +kernel
theorem dX6_steps_141 : decode cX6_steps 141 = .ok (.iload 9, 2) := by decide +kernel
theorem dX6_steps_143 : decode cX6_steps 143 = .ok (.iload 12, 2) := by decide +kernel
theorem dX6_steps_145 : decode cX6_steps 145 = .ok (.iastore, 1) := by decide +kernel
theorem dX6_steps_146 : decode cX6_steps 146 = .ok (.iconst 1, 1) := by decide +kernel
theorem dX6_steps_147 : decode cX6_steps 147 = .ok (.istore 13, 2) := by decide +kernel
theorem dX6_steps_149 : decode cX6_steps 149 = .ok (.aload_n 0, 1) := by decide +kernel
theorem dX6_steps_150 : decode cX6_steps 150 = .ok (.getfield 7, 3) := by decide +kernel
theorem dX6_steps_153 : decode cX6_steps 153 = .ok (.iconst 5, 1) := by decide +kernel
theorem dX6_steps_154 : decode cX6_steps 154 = .ok (.iload_n 1, 1) := by decide +kernel
theorem dX6_steps_155 : decode cX6_steps 155 = .ok (.iadd, 1) := by decide +kernel
theorem dX6_steps_156 : decode cX6_steps 156 = .ok (.iaload, 1) := by decide +kernel
theorem dX6_steps_157 : decode cX6_steps 157 = .ok (.istore 14, 2) := by decide +kernel
theorem dX6_steps_159 : decode cX6_steps 159 = .ok (.iconst 0, 1) := by decide +kernel
theorem dX6_steps_160 : decode cX6_steps 160 = .ok (.istore 15, 2) := by decide +kernel
theorem dX6_steps_162 : decode cX6_steps 162 = .ok (.iload 15, 2) := by decide +kernel
theorem dX6_steps_164 : decode cX6_steps 164 = .ok (.iload 6, 2) := by decide +kernel
theorem dX6_steps_166 : decode cX6_steps 166 = .ok (.if_icmp .ge 89, 3) := by decide +kernel
theorem dX6_steps_169 : decode cX6_steps 169 = .ok (.iload 13, 2) := by decide +kernel
theorem dX6_steps_171 : decode cX6_steps 171 = .ok (.ifCond .eq 84, 3) := by decide +kernel
theorem dX6_steps_174 : decode cX6_steps 174 = .ok (.aload_n 0, 1) := by decide +kernel
theorem dX6_steps_175 : decode cX6_steps 175 = .ok (.getfield 7, 3) := by decide +kernel
theorem dX6_steps_178 : decode cX6_steps 178 = .ok (.iconst 2, 1) := by decide +kernel
theorem dX6_steps_179 : decode cX6_steps 179 = .ok (.iaload, 1) := by decide +kernel
theorem dX6_steps_180 : decode cX6_steps 180 = .ok (.ifCond .ne 8, 3) := by decide +kernel
theorem dX6_steps_183 : decode cX6_steps 183 = .ok (.iload 14, 2) := by decide +kernel
theorem dX6_steps_185 : decode cX6_steps 185 = .ok (.goto 33, 3) := by decide +kernel
theorem dX6_steps_188 : decode cX6_steps 188 = .ok (.aload_n 0, 1) := by decide +kernel
theorem dX6_steps_189 : decode cX6_steps 189 = .ok (.aload_n 0, 1) := by decide +kernel
theorem dX6_steps_190 : decode cX6_steps 190 = .ok (.getfield 7, 3) := by decide +kernel
theorem dX6_steps_193 : decode cX6_steps 193 = .ok (.bipush 23, 2) := by decide +kernel
theorem dX6_steps_195 : decode cX6_steps 195 = .ok (.aload_n 0, 1) := by decide +kernel
theorem dX6_steps_196 : decode cX6_steps 196 = .ok (.getfield 7, 3) := by decide +kernel
theorem dX6_steps_199 : decode cX6_steps 199 = .ok (.iconst 3, 1) := by decide +kernel
theorem dX6_steps_200 : decode cX6_steps 200 = .ok (.iaload, 1) := by decide +kernel
theorem dX6_steps_201 : decode cX6_steps 201 = .ok (.iload 15, 2) := by decide +kernel
theorem dX6_steps_203 : decode cX6_steps 203 = .ok (.iadd, 1) := by decide +kernel
theorem dX6_steps_204 : decode cX6_steps 204 = .ok (.aload_n 0, 1) := by decide +kernel
theorem dX6_steps_205 : decode cX6_steps 205 = .ok (.getfield 7, 3) := by decide +kernel
theorem dX6_steps_208 : decode cX6_steps 208 = .ok (.iconst 2, 1) := by decide +kernel
theorem dX6_steps_209 : decode cX6_steps 209 = .ok (.iaload, 1) := by decide +kernel
theorem dX6_steps_210 : decode cX6_steps 210 = .ok (.irem, 1) := by decide +kernel
theorem dX6_steps_211 : decode cX6_steps 211 = .ok (.iadd, 1) := by decide +kernel
theorem dX6_steps_212 : decode cX6_steps 212 = .ok (.iaload, 1) := by decide +kernel
theorem dX6_steps_213 : decode cX6_steps 213 = .ok (.iload 14, 2) := by decide +kernel
theorem dX6_steps_215 : decode cX6_steps 215 = .ok (.invokevirtual 67, 3) := by decide +kernel
theorem dX6_steps_218 : decode cX6_steps 218 = .ok (.istore 14, 2) := by decide +kernel
theorem dX6_steps_220 : decode cX6_steps 220 = .ok (.iload 14, 2) := by decide +kernel
theorem dX6_steps_222 : decode cX6_steps 222 = .ok (.i2l, 1) := by decide +kernel
theorem dX6_steps_223 : decode cX6_steps 223 = .ok (.aload_n 0, 1) := by decide +kernel
theorem dX6_steps_224 : decode cX6_steps 224 = .ok (.getfield 16, 3) := by decide +kernel
theorem dX6_steps_227 : decode cX6_steps 227 = .ok (.bipush 24, 2) := by decide +kernel
theorem dX6_steps_229 : decode cX6_steps 229 = .ok (.iload_n 3, 1) := by decide +kernel
theorem dX6_steps_230 : decode cX6_steps 230 = .ok (.imul, 1) := by decide +kernel
theorem dX6_steps_231 : decode cX6_steps 231 = .ok (.iload 5, 2) := by decide +kernel
theorem dX6_steps_233 : decode cX6_steps 233 = .ok (.iadd, 1) := by decide +kernel
theorem dX6_steps_234 : decode cX6_steps 234 = .ok (.iload 15, 2) := by decide +kernel
theorem dX6_steps_236 : decode cX6_steps 236 = .ok (.iadd, 1) := by decide +kernel
theorem dX6_steps_237 : decode cX6_steps 237 = .ok (.laload, 1) := by decide +kernel
theorem dX6_steps_238 : decode cX6_steps 238 = .ok (.lcmp, 1) := by decide +kernel
theorem dX6_steps_239 : decode cX6_steps 239 = .ok (.ifCond .ne 7, 3) := by decide +kernel
theorem dX6_steps_242 : decode cX6_steps 242 = .ok (.iconst 1, 1) := by decide +kernel
theorem dX6_steps_243 : decode cX6_steps 243 = .ok (.goto 4, 3) := by decide +kernel
theorem dX6_steps_246 : decode cX6_steps 246 = .ok (.iconst 0, 1) := by decide +kernel
theorem dX6_steps_247 : decode cX6_steps 247 = .ok (.istore 13, 2) := by decide +kernel
theorem dX6_steps_249 : decode cX6_steps 249 = .ok (.iinc 15 1, 3) := by decide +kernel
theorem dX6_steps_252 : decode cX6_steps 252 = .ok (.goto (-90), 3) := by decide +kernel
theorem dX6_steps_255 : decode cX6_steps 255 = .ok (.iload 11, 2) := by decide +kernel
theorem dX6_steps_257 : decode cX6_steps 257 = .ok (.iload 13, 2) := by decide +kernel
theorem dX6_steps_259 : decode cX6_steps 259 = .ok (.ifCond .eq 10, 3) := by decide +kernel
theorem dX6_steps_262 : decode cX6_steps 262 = .ok (.iconst 1, 1) := by decide +kernel
theorem dX6_steps_263 : decode cX6_steps 263 = .ok (.iload 12, 2) := by decide +kernel
theorem dX6_steps_265 : decode cX6_steps 265 = .ok (.ishl, 1) := by decide +kernel
theorem dX6_steps_266 : decode cX6_steps 266 = .ok (.goto 4, 3) := by decide +kernel
theorem dX6_steps_269 : decode cX6_steps 269 = .ok (.iconst 0, 1) := by decide +kernel
theorem dX6_steps_270 : decode cX6_steps 270 = .ok (.ior, 1) := by decide +kernel
theorem dX6_steps_271 : decode cX6_steps 271 = .ok (.istore 11, 2) := by decide +kernel
theorem dX6_steps_273 : decode cX6_steps 273 = .ok (.iinc 12 1, 3) := by decide +kernel
theorem dX6_steps_276 : decode cX6_steps 276 = .ok (.goto (-155), 3) := by decide +kernel
theorem dX6_steps_279 : decode cX6_steps 279 = .ok (.aload_n 0, 1) := by decide +kernel
theorem dX6_steps_280 : decode cX6_steps 280 = .ok (.getfield 7, 3) := by decide +kernel
theorem dX6_steps_283 : decode cX6_steps 283 = .ok (.iload 9, 2) := by decide +kernel
theorem dX6_steps_285 : decode cX6_steps 285 = .ok (.iload 10, 2) := by decide +kernel
theorem dX6_steps_287 : decode cX6_steps 287 = .ok (.iastore, 1) := by decide +kernel
theorem dX6_steps_288 : decode cX6_steps 288 = .ok (.iload 11, 2) := by decide +kernel
theorem dX6_steps_290 : decode cX6_steps 290 = .ok (.ireturn, 1) := by decide +kernel
theorem dX6_film_0 : decode cX6_film 0 = .ok (.aload_n 0, 1) := by decide +kernel
theorem dX6_film_1 : decode cX6_film 1 = .ok (.iload_n 1, 1) := by decide +kernel
theorem dX6_film_2 : decode cX6_film 2 = .ok (.invokevirtual 100, 3) := by decide +kernel
theorem dX6_film_5 : decode cX6_film 5 = .ok (.ifCond .eq 24, 3) := by decide +kernel
theorem dX6_film_8 : decode cX6_film 8 = .ok (.iload_n 2, 1) := by decide +kernel
theorem dX6_film_9 : decode cX6_film 9 = .ok (.i2l, 1) := by decide +kernel
theorem dX6_film_10 : decode cX6_film 10 = .ok (.lconst 1, 1) := by decide +kernel
theorem dX6_film_11 : decode cX6_film 11 = .ok (.ldc2_w 217, 3) := by decide +kernel
theorem dX6_film_14 : decode cX6_film 14 = .ok (.invokestatic 52, 3) := by decide +kernel
theorem dX6_film_17 : decode cX6_film 17 = .ok (.ifCond .eq 12, 3) := by decide +kernel
theorem dX6_film_20 : decode cX6_film 20 = .ok (.iload_n 3, 1) := by decide +kernel
theorem dX6_film_21 : decode cX6_film 21 = .ok (.iload 4, 2) := by decide +kernel
theorem dX6_film_23 : decode cX6_film 23 = .ok (.invokestatic 208, 3) := by decide +kernel
theorem dX6_film_26 : decode cX6_film 26 = .ok (.ifCond .ne 5, 3) := by decide +kernel
theorem dX6_film_29 : decode cX6_film 29 = .ok (.iconst (-1), 1) := by decide +kernel
theorem dX6_film_30 : decode cX6_film 30 = .ok (.ireturn, 1) := by decide +kernel
theorem dX6_film_31 : decode cX6_film 31 = .ok (.aload_n 0, 1) := by decide +kernel
theorem dX6_film_32 : decode cX6_film 32 = .ok (.iload_n 3, 1) := by decide +kernel
theorem dX6_film_33 : decode cX6_film 33 = .ok (.iload 4, 2) := by decide +kernel
theorem dX6_film_35 : decode cX6_film 35 = .ok (.iload 5, 2) := by decide +kernel
theorem dX6_film_37 : decode cX6_film 37 = .ok (.iload_n 2, 1) := by decide +kernel
theorem dX6_film_38 : decode cX6_film 38 = .ok (.invokevirtual 213, 3) := by decide +kernel
theorem dX6_film_41 : decode cX6_film 41 = .ok (.istore 6, 2) := by decide +kernel
theorem dX6_film_43 : decode cX6_film 43 = .ok (.iload 6, 2) := by decide +kernel
theorem dX6_film_45 : decode cX6_film 45 = .ok (.ifCond .ge 6, 3) := by decide +kernel
theorem dX6_film_48 : decode cX6_film 48 = .ok (.iload 6, 2) := by decide +kernel
theorem dX6_film_50 : decode cX6_film 50 = .ok (.ireturn, 1) := by decide +kernel
theorem dX6_film_51 : decode cX6_film 51 = .ok (.iconst 0, 1) := by decide +kernel
theorem dX6_film_52 : decode cX6_film 52 = .ok (.istore 7, 2) := by decide +kernel
theorem dX6_film_54 : decode cX6_film 54 = .ok (.iload 7, 2) := by decide +kernel
theorem dX6_film_56 : decode cX6_film 56 = .ok (.iload_n 2, 1) := by decide +kernel
theorem dX6_film_57 : decode cX6_film 57 = .ok (.if_icmp .ge 41, 3) := by decide +kernel
theorem dX6_film_60 : decode cX6_film 60 = .ok (.aload_n 0, 1) := by decide +kernel
theorem dX6_film_61 : decode cX6_film 61 = .ok (.getfield 16, 3) := by decide +kernel
theorem dX6_film_64 : decode cX6_film 64 = .ok (.bipush 24, 2) := by decide +kernel
theorem dX6_film_66 : decode cX6_film 66 = .ok (.iload_n 3, 1) := by decide +kernel
theorem dX6_film_67 : decode cX6_film 67 = .ok (.imul, 1) := by decide +kernel
theorem dX6_film_68 : decode cX6_film 68 = .ok (.iload 5, 2) := by decide +kernel
theorem dX6_film_70 : decode cX6_film 70 = .ok (.iadd, 1) := by decide +kernel
theorem dX6_film_71 : decode cX6_film 71 = .ok (.iload 7, 2) := by decide +kernel
theorem dX6_film_73 : decode cX6_film 73 = .ok (.iadd, 1) := by decide +kernel
theorem dX6_film_74 : decode cX6_film 74 = .ok (.aload_n 0, 1) := by decide +kernel
theorem dX6_film_75 : decode cX6_film 75 = .ok (.aload_n 0, 1) := by decide +kernel
theorem dX6_film_76 : decode cX6_film 76 = .ok (.getfield 7, 3) := by decide +kernel
theorem dX6_film_79 : decode cX6_film 79 = .ok (.iconst 5, 1) := by decide +kernel
theorem dX6_film_80 : decode cX6_film 80 = .ok (.iload_n 1, 1) := by decide +kernel
theorem dX6_film_81 : decode cX6_film 81 = .ok (.iadd, 1) := by decide +kernel
theorem dX6_film_82 : decode cX6_film 82 = .ok (.iaload, 1) := by decide +kernel
theorem dX6_film_83 : decode cX6_film 83 = .ok (.iload 7, 2) := by decide +kernel
theorem dX6_film_85 : decode cX6_film 85 = .ok (.iconst 1, 1) := by decide +kernel
theorem dX6_film_86 : decode cX6_film 86 = .ok (.iadd, 1) := by decide +kernel
theorem dX6_film_87 : decode cX6_film 87 = .ok (.invokevirtual 179, 3) := by decide +kernel
theorem dX6_film_90 : decode cX6_film 90 = .ok (.i2l, 1) := by decide +kernel
theorem dX6_film_91 : decode cX6_film 91 = .ok (.lastore, 1) := by decide +kernel
theorem dX6_film_92 : decode cX6_film 92 = .ok (.iinc 7 1, 3) := by decide +kernel
theorem dX6_film_95 : decode cX6_film 95 = .ok (.goto (-41), 3) := by decide +kernel
theorem dX6_film_98 : decode cX6_film 98 = .ok (.iload_n 2, 1) := by decide +kernel
theorem dX6_film_99 : decode cX6_film 99 = .ok (.ireturn, 1) := by decide +kernel
theorem dX6_sheet_0 : decode cX6_sheet 0 = .ok (.iload_n 1, 1) := by decide +kernel
theorem dX6_sheet_1 : decode cX6_sheet 1 = .ok (.iload_n 2, 1) := by decide +kernel
theorem dX6_sheet_2 : decode cX6_sheet 2 = .ok (.invokestatic 208, 3) := by decide +kernel
theorem dX6_sheet_5 : decode cX6_sheet 5 = .ok (.ifCond .eq 9, 3) := by decide +kernel
theorem dX6_sheet_8 : decode cX6_sheet 8 = .ok (.iload_n 3, 1) := by decide +kernel
theorem dX6_sheet_9 : decode cX6_sheet 9 = .ok (.bipush 24, 2) := by decide +kernel
theorem dX6_sheet_11 : decode cX6_sheet 11 = .ok (.if_icmp .le 5, 3) := by decide +kernel
theorem dX6_sheet_14 : decode cX6_sheet 14 = .ok (.iconst (-1), 1) := by decide +kernel
theorem dX6_sheet_15 : decode cX6_sheet 15 = .ok (.ireturn, 1) := by decide +kernel
theorem dX6_sheet_16 : decode cX6_sheet 16 = .ok (.iload_n 3, 1) := by decide +kernel
theorem dX6_sheet_17 : decode cX6_sheet 17 = .ok (.ifCond .ge 6, 3) := by decide +kernel
theorem dX6_sheet_20 : decode cX6_sheet 20 = .ok (.bipush (-14), 2) := by decide +kernel
theorem dX6_sheet_22 : decode cX6_sheet 22 = .ok (.ireturn, 1) := by decide +kernel
theorem dX6_sheet_23 : decode cX6_sheet 23 = .ok (.aload_n 0, 1) := by decide +kernel
theorem dX6_sheet_24 : decode cX6_sheet 24 = .ok (.getfield 23, 3) := by decide +kernel
theorem dX6_sheet_27 : decode cX6_sheet 27 = .ok (.iload_n 1, 1) := by decide +kernel
theorem dX6_sheet_28 : decode cX6_sheet 28 = .ok (.iload_n 2, 1) := by decide +kernel
theorem dX6_sheet_29 : decode cX6_sheet 29 = .ok (.iastore, 1) := by decide +kernel
theorem dX6_sheet_30 : decode cX6_sheet 30 = .ok (.aload_n 0, 1) := by decide +kernel
theorem dX6_sheet_31 : decode cX6_sheet 31 = .ok (.getfield 20, 3) := by decide +kernel
theorem dX6_sheet_34 : decode cX6_sheet 34 = .ok (.iload_n 1, 1) := by decide +kernel
theorem dX6_sheet_35 : decode cX6_sheet 35 = .ok (.iload_n 3, 1) := by decide +kernel
theorem dX6_sheet_36 : decode cX6_sheet 36 = .ok (.iastore, 1) := by decide +kernel
theorem dX6_sheet_37 : decode cX6_sheet 37 = .ok (.iconst 0, 1) := by decide +kernel
theorem dX6_sheet_38 : decode cX6_sheet 38 = .ok (.istore 4, 2) := by decide +kernel
theorem dX6_sheet_40 : decode cX6_sheet 40 = .ok (.iload 4, 2) := by decide +kernel
theorem dX6_sheet_42 : decode cX6_sheet 42 = .ok (.bipush 24, 2) := by decide +kernel
theorem dX6_sheet_44 : decode cX6_sheet 44 = .ok (.if_icmp .ge 22, 3) := by decide +kernel
theorem dX6_sheet_47 : decode cX6_sheet 47 = .ok (.aload_n 0, 1) := by decide +kernel
theorem dX6_sheet_48 : decode cX6_sheet 48 = .ok (.getfield 16, 3) := by decide +kernel
theorem dX6_sheet_51 : decode cX6_sheet 51 = .ok (.bipush 24, 2) := by decide +kernel
theorem dX6_sheet_53 : decode cX6_sheet 53 = .ok (.iload_n 1, 1) := by decide +kernel
theorem dX6_sheet_54 : decode cX6_sheet 54 = .ok (.imul, 1) := by decide +kernel
theorem dX6_sheet_55 : decode cX6_sheet 55 = .ok (.iload 4, 2) := by decide +kernel
theorem dX6_sheet_57 : decode cX6_sheet 57 = .ok (.iadd, 1) := by decide +kernel
theorem dX6_sheet_58 : decode cX6_sheet 58 = .ok (.lconst 0, 1) := by decide +kernel
theorem dX6_sheet_59 : decode cX6_sheet 59 = .ok (.lastore, 1) := by decide +kernel
theorem dX6_sheet_60 : decode cX6_sheet 60 = .ok (.iinc 4 1, 3) := by decide +kernel
theorem dX6_sheet_63 : decode cX6_sheet 63 = .ok (.goto (-23), 3) := by decide +kernel
theorem dX6_sheet_66 : decode cX6_sheet 66 = .ok (.iload_n 3, 1) := by decide +kernel
theorem dX6_sheet_67 : decode cX6_sheet 67 = .ok (.ireturn, 1) := by decide +kernel
theorem dX6_drop_0 : decode cX6_drop 0 = .ok (.iload_n 1, 1) := by decide +kernel
theorem dX6_drop_1 : decode cX6_drop 1 = .ok (.invokestatic 205, 3) := by decide +kernel
theorem dX6_drop_4 : decode cX6_drop 4 = .ok (.ifCond .ne 5, 3) := by decide +kernel
theorem dX6_drop_7 : decode cX6_drop 7 = .ok (.iconst (-1), 1) := by decide +kernel
theorem dX6_drop_8 : decode cX6_drop 8 = .ok (.ireturn, 1) := by decide +kernel
theorem dX6_drop_9 : decode cX6_drop 9 = .ok (.aload_n 0, 1) := by decide +kernel
theorem dX6_drop_10 : decode cX6_drop 10 = .ok (.getfield 20, 3) := by decide +kernel
theorem dX6_drop_13 : decode cX6_drop 13 = .ok (.iload_n 1, 1) := by decide +kernel
theorem dX6_drop_14 : decode cX6_drop 14 = .ok (.iaload, 1) := by decide +kernel
theorem dX6_drop_15 : decode cX6_drop 15 = .ok (.ifCond .ge 6, 3) := by decide +kernel
theorem dX6_drop_18 : decode cX6_drop 18 = .ok (.bipush (-11), 2) := by decide +kernel
theorem dX6_drop_20 : decode cX6_drop 20 = .ok (.ireturn, 1) := by decide +kernel
theorem dX6_drop_21 : decode cX6_drop 21 = .ok (.aload_n 0, 1) := by decide +kernel
theorem dX6_drop_22 : decode cX6_drop 22 = .ok (.getfield 20, 3) := by decide +kernel
theorem dX6_drop_25 : decode cX6_drop 25 = .ok (.iload_n 1, 1) := by decide +kernel
theorem dX6_drop_26 : decode cX6_drop 26 = .ok (.iaload, 1) := by decide +kernel
theorem dX6_drop_27 : decode cX6_drop 27 = .ok (.istore_n 2, 1) := by decide +kernel
theorem dX6_drop_28 : decode cX6_drop 28 = .ok (.aload_n 0, 1) := by decide +kernel
theorem dX6_drop_29 : decode cX6_drop 29 = .ok (.getfield 20, 3) := by decide +kernel
theorem dX6_drop_32 : decode cX6_drop 32 = .ok (.iload_n 1, 1) := by decide +kernel
theorem dX6_drop_33 : decode cX6_drop 33 = .ok (.iconst (-1), 1) := by decide +kernel
theorem dX6_drop_34 : decode cX6_drop 34 = .ok (.iastore, 1) := by decide +kernel
theorem dX6_drop_35 : decode cX6_drop 35 = .ok (.iload_n 2, 1) := by decide +kernel
theorem dX6_drop_36 : decode cX6_drop 36 = .ok (.ireturn, 1) := by decide +kernel
theorem dX6_item_0 : decode cX6_item 0 = .ok (.iload_n 1, 1) := by decide +kernel
theorem dX6_item_1 : decode cX6_item 1 = .ok (.iload_n 2, 1) := by decide +kernel
theorem dX6_item_2 : decode cX6_item 2 = .ok (.invokestatic 208, 3) := by decide +kernel
theorem dX6_item_5 : decode cX6_item 5 = .ok (.ifCond .ne 5, 3) := by decide +kernel
theorem dX6_item_8 : decode cX6_item 8 = .ok (.iconst (-1), 1) := by decide +kernel
theorem dX6_item_9 : decode cX6_item 9 = .ok (.ireturn, 1) := by decide +kernel
theorem dX6_item_10 : decode cX6_item 10 = .ok (.aload_n 0, 1) := by decide +kernel
theorem dX6_item_11 : decode cX6_item 11 = .ok (.iload_n 1, 1) := by decide +kernel
theorem dX6_item_12 : decode cX6_item 12 = .ok (.iload_n 2, 1) := by decide +kernel
theorem dX6_item_13 : decode cX6_item 13 = .ok (.iload_n 3, 1) := by decide +kernel
theorem dX6_item_14 : decode cX6_item 14 = .ok (.iconst 1, 1) := by decide +kernel
theorem dX6_item_15 : decode cX6_item 15 = .ok (.invokevirtual 213, 3) := by decide +kernel
theorem dX6_item_18 : decode cX6_item 18 = .ok (.istore 6, 2) := by decide +kernel
theorem dX6_item_20 : decode cX6_item 20 = .ok (.iload 6, 2) := by decide +kernel
theorem dX6_item_22 : decode cX6_item 22 = .ok (.ifCond .ge 6, 3) := by decide +kernel
theorem dX6_item_25 : decode cX6_item 25 = .ok (.iload 6, 2) := by decide +kernel
theorem dX6_item_27 : decode cX6_item 27 = .ok (.ireturn, 1) := by decide +kernel
theorem dX6_item_28 : decode cX6_item 28 = .ok (.aload_n 0, 1) := by decide +kernel
theorem dX6_item_29 : decode cX6_item 29 = .ok (.getfield 16, 3) := by decide +kernel
theorem dX6_item_32 : decode cX6_item 32 = .ok (.bipush 24, 2) := by decide +kernel
theorem dX6_item_34 : decode cX6_item 34 = .ok (.iload_n 1, 1) := by decide +kernel
theorem dX6_item_35 : decode cX6_item 35 = .ok (.imul, 1) := by decide +kernel
theorem dX6_item_36 : decode cX6_item 36 = .ok (.iload_n 3, 1) := by decide +kernel
theorem dX6_item_37 : decode cX6_item 37 = .ok (.iadd, 1) := by decide +kernel
theorem dX6_item_38 : decode cX6_item 38 = .ok (.iload_n 2, 1) := by decide +kernel
theorem dX6_item_39 : decode cX6_item 39 = .ok (.lload 4, 2) := by decide +kernel
theorem dX6_item_41 : decode cX6_item 41 = .ok (.invokestatic 219, 3) := by decide +kernel
theorem dX6_item_44 : decode cX6_item 44 = .ok (.lastore, 1) := by decide +kernel
theorem dX6_item_45 : decode cX6_item 45 = .ok (.iconst 1, 1) := by decide +kernel
theorem dX6_item_46 : decode cX6_item 46 = .ok (.ireturn, 1) := by decide +kernel
theorem dX6_copy_0 : decode cX6_copy 0 = .ok (.iload_n 1, 1) := by decide +kernel
theorem dX6_copy_1 : decode cX6_copy 1 = .ok (.invokestatic 205, 3) := by decide +kernel
theorem dX6_copy_4 : decode cX6_copy 4 = .ok (.ifCond .eq 10, 3) := by decide +kernel
theorem dX6_copy_7 : decode cX6_copy 7 = .ok (.iload_n 3, 1) := by decide +kernel
theorem dX6_copy_8 : decode cX6_copy 8 = .ok (.invokestatic 205, 3) := by decide +kernel
theorem dX6_copy_11 : decode cX6_copy 11 = .ok (.ifCond .ne 5, 3) := by decide +kernel
theorem dX6_copy_14 : decode cX6_copy 14 = .ok (.iconst (-1), 1) := by decide +kernel
theorem dX6_copy_15 : decode cX6_copy 15 = .ok (.ireturn, 1) := by decide +kernel
theorem dX6_copy_16 : decode cX6_copy 16 = .ok (.aload_n 0, 1) := by decide +kernel
theorem dX6_copy_17 : decode cX6_copy 17 = .ok (.getfield 20, 3) := by decide +kernel
theorem dX6_copy_20 : decode cX6_copy 20 = .ok (.iload_n 1, 1) := by decide +kernel
theorem dX6_copy_21 : decode cX6_copy 21 = .ok (.iaload, 1) := by decide +kernel
theorem dX6_copy_22 : decode cX6_copy 22 = .ok (.ifCond .lt 12, 3) := by decide +kernel
theorem dX6_copy_25 : decode cX6_copy 25 = .ok (.aload_n 0, 1) := by decide +kernel
theorem dX6_copy_26 : decode cX6_copy 26 = .ok (.getfield 20, 3) := by decide +kernel
theorem dX6_copy_29 : decode cX6_copy 29 = .ok (.iload_n 3, 1) := by decide +kernel
theorem dX6_copy_30 : decode cX6_copy 30 = .ok (.iaload, 1) := by decide +kernel
theorem dX6_copy_31 : decode cX6_copy 31 = .ok (.ifCond .ge 6, 3) := by decide +kernel
theorem dX6_copy_34 : decode cX6_copy 34 = .ok (.bipush (-11), 2) := by decide +kernel
theorem dX6_copy_36 : decode cX6_copy 36 = .ok (.ireturn, 1) := by decide +kernel
theorem dX6_copy_37 : decode cX6_copy 37 = .ok (.aload_n 0, 1) := by decide +kernel
theorem dX6_copy_38 : decode cX6_copy 38 = .ok (.getfield 23, 3) := by decide +kernel
theorem dX6_copy_41 : decode cX6_copy 41 = .ok (.iload_n 1, 1) := by decide +kernel
theorem dX6_copy_42 : decode cX6_copy 42 = .ok (.iaload, 1) := by decide +kernel
theorem dX6_copy_43 : decode cX6_copy 43 = .ok (.aload_n 0, 1) := by decide +kernel
theorem dX6_copy_44 : decode cX6_copy 44 = .ok (.getfield 23, 3) := by decide +kernel
theorem dX6_copy_47 : decode cX6_copy 47 = .ok (.iload_n 3, 1) := by decide +kernel
theorem dX6_copy_48 : decode cX6_copy 48 = .ok (.iaload, 1) := by decide +kernel
theorem dX6_copy_49 : decode cX6_copy 49 = .ok (.if_icmp .eq 6, 3) := by decide +kernel
theorem dX6_copy_52 : decode cX6_copy 52 = .ok (.bipush (-12), 2) := by decide +kernel
theorem dX6_copy_54 : decode cX6_copy 54 = .ok (.ireturn, 1) := by decide +kernel
theorem dX6_copy_55 : decode cX6_copy 55 = .ok (.aload_n 0, 1) := by decide +kernel
theorem dX6_copy_56 : decode cX6_copy 56 = .ok (.iload_n 1, 1) := by decide +kernel
theorem dX6_copy_57 : decode cX6_copy 57 = .ok (.aload_n 0, 1) := by decide +kernel
theorem dX6_copy_58 : decode cX6_copy 58 = .ok (.getfield 23, 3) := by decide +kernel
theorem dX6_copy_61 : decode cX6_copy 61 = .ok (.iload_n 1, 1) := by decide +kernel
theorem dX6_copy_62 : decode cX6_copy 62 = .ok (.iaload, 1) := by decide +kernel
theorem dX6_copy_63 : decode cX6_copy 63 = .ok (.iload_n 2, 1) := by decide +kernel
theorem dX6_copy_64 : decode cX6_copy 64 = .ok (.iload 5, 2) := by decide +kernel
theorem dX6_copy_66 : decode cX6_copy 66 = .ok (.invokevirtual 213, 3) := by decide +kernel
theorem dX6_copy_69 : decode cX6_copy 69 = .ok (.ifCond .lt 21, 3) := by decide +kernel
theorem dX6_copy_72 : decode cX6_copy 72 = .ok (.aload_n 0, 1) := by decide +kernel
theorem dX6_copy_73 : decode cX6_copy 73 = .ok (.iload_n 3, 1) := by decide +kernel
theorem dX6_copy_74 : decode cX6_copy 74 = .ok (.aload_n 0, 1) := by decide +kernel
theorem dX6_copy_75 : decode cX6_copy 75 = .ok (.getfield 23, 3) := by decide +kernel
theorem dX6_copy_78 : decode cX6_copy 78 = .ok (.iload_n 3, 1) := by decide +kernel
theorem dX6_copy_79 : decode cX6_copy 79 = .ok (.iaload, 1) := by decide +kernel
theorem dX6_copy_80 : decode cX6_copy 80 = .ok (.iload 4, 2) := by decide +kernel
theorem dX6_copy_82 : decode cX6_copy 82 = .ok (.iload 5, 2) := by decide +kernel
theorem dX6_copy_84 : decode cX6_copy 84 = .ok (.invokevirtual 213, 3) := by decide +kernel
theorem dX6_copy_87 : decode cX6_copy 87 = .ok (.ifCond .ge 6, 3) := by decide +kernel
theorem dX6_copy_90 : decode cX6_copy 90 = .ok (.bipush (-13), 2) := by decide +kernel
theorem dX6_copy_92 : decode cX6_copy 92 = .ok (.ireturn, 1) := by decide +kernel
theorem dX6_copy_93 : decode cX6_copy 93 = .ok (.iconst 0, 1) := by decide +kernel
theorem dX6_copy_94 : decode cX6_copy 94 = .ok (.istore 6, 2) := by decide +kernel
theorem dX6_copy_96 : decode cX6_copy 96 = .ok (.iload 6, 2) := by decide +kernel
theorem dX6_copy_98 : decode cX6_copy 98 = .ok (.iload 5, 2) := by decide +kernel
theorem dX6_copy_100 : decode cX6_copy 100 = .ok (.if_icmp .ge 30, 3) := by decide +kernel
theorem dX6_copy_103 : decode cX6_copy 103 = .ok (.aload_n 0, 1) := by decide +kernel
theorem dX6_copy_104 : decode cX6_copy 104 = .ok (.getfield 47, 3) := by decide +kernel
theorem dX6_copy_107 : decode cX6_copy 107 = .ok (.iload 6, 2) := by decide +kernel
theorem dX6_copy_109 : decode cX6_copy 109 = .ok (.aload_n 0, 1) := by decide +kernel
theorem dX6_copy_110 : decode cX6_copy 110 = .ok (.getfield 16, 3) := by decide +kernel
theorem dX6_copy_113 : decode cX6_copy 113 = .ok (.bipush 24, 2) := by decide +kernel
theorem dX6_copy_115 : decode cX6_copy 115 = .ok (.iload_n 1, 1) := by decide +kernel
theorem dX6_copy_116 : decode cX6_copy 116 = .ok (.imul, 1) := by decide +kernel
theorem dX6_copy_117 : decode cX6_copy 117 = .ok (.iload_n 2, 1) := by decide +kernel
theorem dX6_copy_118 : decode cX6_copy 118 = .ok (.iadd, 1) := by decide +kernel
theorem dX6_copy_119 : decode cX6_copy 119 = .ok (.iload 6, 2) := by decide +kernel
theorem dX6_copy_121 : decode cX6_copy 121 = .ok (.iadd, 1) := by decide +kernel
theorem dX6_copy_122 : decode cX6_copy 122 = .ok (.laload, 1) := by decide +kernel
theorem dX6_copy_123 : decode cX6_copy 123 = .ok (.lastore, 1) := by decide +kernel
theorem dX6_copy_124 : decode cX6_copy 124 = .ok (.iinc 6 1, 3) := by decide +kernel
theorem dX6_copy_127 : decode cX6_copy 127 = .ok (.goto (-31), 3) := by decide +kernel
theorem dX6_copy_130 : decode cX6_copy 130 = .ok (.iconst 0, 1) := by decide +kernel
theorem dX6_copy_131 : decode cX6_copy 131 = .ok (.istore 6, 2) := by decide +kernel
theorem dX6_copy_133 : decode cX6_copy 133 = .ok (.iload 6, 2) := by decide +kernel
theorem dX6_copy_135 : decode cX6_copy 135 = .ok (.iload 5, 2) := by decide +kernel
theorem dX6_copy_137 : decode cX6_copy 137 = .ok (.if_icmp .ge 31, 3) := by decide +kernel
theorem dX6_copy_140 : decode cX6_copy 140 = .ok (.aload_n 0, 1) := by decide +kernel
theorem dX6_copy_141 : decode cX6_copy 141 = .ok (.getfield 16, 3) := by decide +kernel
theorem dX6_copy_144 : decode cX6_copy 144 = .ok (.bipush 24, 2) := by decide +kernel
theorem dX6_copy_146 : decode cX6_copy 146 = .ok (.iload_n 3, 1) := by decide +kernel
theorem dX6_copy_147 : decode cX6_copy 147 = .ok (.imul, 1) := by decide +kernel
theorem dX6_copy_148 : decode cX6_copy 148 = .ok (.iload 4, 2) := by decide +kernel
theorem dX6_copy_150 : decode cX6_copy 150 = .ok (.iadd, 1) := by decide +kernel
theorem dX6_copy_151 : decode cX6_copy 151 = .ok (.iload 6, 2) := by decide +kernel
theorem dX6_copy_153 : decode cX6_copy 153 = .ok (.iadd, 1) := by decide +kernel
theorem dX6_copy_154 : decode cX6_copy 154 = .ok (.aload_n 0, 1) := by decide +kernel
theorem dX6_copy_155 : decode cX6_copy 155 = .ok (.getfield 47, 3) := by decide +kernel
theorem dX6_copy_158 : decode cX6_copy 158 = .ok (.iload 6, 2) := by decide +kernel
theorem dX6_copy_160 : decode cX6_copy 160 = .ok (.laload, 1) := by decide +kernel
theorem dX6_copy_161 : decode cX6_copy 161 = .ok (.lastore, 1) := by decide +kernel
theorem dX6_copy_162 : decode cX6_copy 162 = .ok (.iinc 6 1, 3) := by decide +kernel
theorem dX6_copy_165 : decode cX6_copy 165 = .ok (.goto (-32), 3) := by decide +kernel
theorem dX6_copy_168 : decode cX6_copy 168 = .ok (.iload 5, 2) := by decide +kernel
theorem dX6_copy_170 : decode cX6_copy 170 = .ok (.ireturn, 1) := by decide +kernel
