theorem dX5_init_0 : decode cX5_init 0 = .ok (.aload_n 0, 1) := by decide +kernel
theorem dX5_init_1 : decode cX5_init 1 = .ok (.invokespecial 1, 3) := by decide +kernel
theorem dX5_init_4 : decode cX5_init 4 = .ok (.aload_n 0, 1) := by decide +kernel
theorem dX5_init_5 : decode cX5_init 5 = .ok (.iconst 5, 1) := by decide +kernel
theorem dX5_init_6 : decode cX5_init 6 = .ok (.newarray .int, 2) := by decide +kernel
theorem dX5_init_8 : decode cX5_init 8 = .ok (.putfield 7, 3) := by decide +kernel
theorem dX5_init_11 : decode cX5_init 11 = .ok (.aload_n 0, 1) := by decide +kernel
theorem dX5_init_12 : decode cX5_init 12 = .ok (.bipush 24, 2) := by decide +kernel
theorem dX5_init_14 : decode cX5_init 14 = .ok (.newarray .int, 2) := by decide +kernel
theorem dX5_init_16 : decode cX5_init 16 = .ok (.putfield 13, 3) := by decide +kernel
theorem dX5_init_19 : decode cX5_init 19 = .ok (.aload_n 0, 1) := by decide +kernel
theorem dX5_init_20 : decode cX5_init 20 = .ok (.iconst 5, 1) := by decide +kernel
theorem dX5_init_21 : decode cX5_init 21 = .ok (.newarray .int, 2) := by decide +kernel
theorem dX5_init_23 : decode cX5_init 23 = .ok (.putfield 16, 3) := by decide +kernel
theorem dX5_init_26 : decode cX5_init 26 = .ok (.aload_n 0, 1) := by decide +kernel
theorem dX5_init_27 : decode cX5_init 27 = .ok (.bipush 24, 2) := by decide +kernel
theorem dX5_init_29 : decode cX5_init 29 = .ok (.newarray .int, 2) := by decide +kernel
theorem dX5_init_31 : decode cX5_init 31 = .ok (.putfield 19, 3) := by decide +kernel
theorem dX5_init_34 : decode cX5_init 34 = .ok (.aload_n 0, 1) := by decide +kernel
theorem dX5_init_35 : decode cX5_init 35 = .ok (.bipush 8, 2) := by decide +kernel
theorem dX5_init_37 : decode cX5_init 37 = .ok (.newarray .int, 2) := by decide +kernel
theorem dX5_init_39 : decode cX5_init 39 = .ok (.putfield 22, 3) := by decide +kernel
theorem dX5_init_42 : decode cX5_init 42 = .ok (.aload_n 0, 1) := by decide +kernel
theorem dX5_init_43 : decode cX5_init 43 = .ok (.bipush 8, 2) := by decide +kernel
theorem dX5_init_45 : decode cX5_init 45 = .ok (.newarray .int, 2) := by decide +kernel
theorem dX5_init_47 : decode cX5_init 47 = .ok (.putfield 25, 3) := by decide +kernel
theorem dX5_init_50 : decode cX5_init 50 = .ok (.aload_n 0, 1) := by decide +kernel
theorem dX5_init_51 : decode cX5_init 51 = .ok (.bipush 8, 2) := by decide +kernel
theorem dX5_init_53 : decode cX5_init 53 = .ok (.newarray .int, 2) := by decide +kernel
theorem dX5_init_55 : decode cX5_init 55 = .ok (.putfield 28, 3) := by decide +kernel
theorem dX5_init_58 : decode cX5_init 58 = .ok (.aload_n 0, 1) := by decide +kernel
theorem dX5_init_59 : decode cX5_init 59 = .ok (.bipush 48, 2) := by decide +kernel
theorem dX5_init_61 : decode cX5_init 61 = .ok (.newarray .int, 2) := by decide +kernel
theorem dX5_init_63 : decode cX5_init 63 = .ok (.putfield 31, 3) := by decide +kernel
theorem dX5_init_66 : decode cX5_init 66 = .ok (.aload_n 0, 1) := by decide +kernel
theorem dX5_init_67 : decode cX5_init 67 = .ok (.bipush 24, 2) := by decide +kernel
theorem dX5_init_69 : decode cX5_init 69 = .ok (.newarray .int, 2) := by decide +kernel
theorem dX5_init_71 : decode cX5_init 71 = .ok (.putfield 34, 3) := by decide +kernel
theorem dX5_init_74 : decode cX5_init 74 = .ok (.aload_n 0, 1) := by decide +kernel
theorem dX5_init_75 : decode cX5_init 75 = .ok (.iconst 3, 1) := by decide +kernel
theorem dX5_init_76 : decode cX5_init 76 = .ok (.newarray .int, 2) := by decide +kernel
theorem dX5_init_78 : decode cX5_init 78 = .ok (.putfield 37, 3) := by decide +kernel
theorem dX5_init_81 : decode cX5_init 81 = .ok (.aload_n 0, 1) := by decide +kernel
theorem dX5_init_82 : decode cX5_init 82 = .ok (.sipush 256, 3) := by decide +kernel
theorem dX5_init_85 : decode cX5_init 85 = .ok (.newarray .boolean, 2) := by decide +kernel
theorem dX5_init_87 : decode cX5_init 87 = .ok (.putfield 40, 3) := by decide +kernel
theorem dX5_init_90 : decode cX5_init 90 = .ok (.aload_n 0, 1) := by decide +kernel
theorem dX5_init_91 : decode cX5_init 91 = .ok (.bipush 100, 2) := by decide +kernel
theorem dX5_init_93 : decode cX5_init 93 = .ok (.newarray .int, 2) := by decide +kernel
theorem dX5_init_95 : decode cX5_init 95 = .ok (.putfield 44, 3) := by decide +kernel
theorem dX5_init_98 : decode cX5_init 98 = .ok (.aload_n 0, 1) := by decide +kernel
theorem dX5_init_99 : decode cX5_init 99 = .ok (.sipush 256, 3) := by decide +kernel
theorem dX5_init_102 : decode cX5_init 102 = .ok (.newarray .int, 2) := by decide +kernel
theorem dX5_init_104 : decode cX5_init 104 = .ok (.putfield 47, 3) := by decide +kernel
theorem dX5_init_107 : decode cX5_init 107 = .ok (.aload_n 0, 1) := by decide +kernel
theorem dX5_init_108 : decode cX5_init 108 = .ok (.iconst 2, 1) := by decide +kernel
theorem dX5_init_109 : decode cX5_init 109 = .ok (.newarray .boolean, 2) := by decide +kernel
theorem dX5_init_111 : decode cX5_init 111 = .ok (.putfield 50, 3) := by decide +kernel
theorem dX5_init_114 : decode cX5_init 114 = .ok (.aload_n 0, 1) := by decide +kernel
theorem dX5_init_115 : decode cX5_init 115 = .ok (.bipush 16, 2) := by decide +kernel
theorem dX5_init_117 : decode cX5_init 117 = .ok (.newarray .int, 2) := by decide +kernel
theorem dX5_init_119 : decode cX5_init 119 = .ok (.putfield 53, 3) := by decide +kernel
theorem dX5_init_122 : decode cX5_init 122 = .ok (.aload_n 0, 1) := by decide +kernel
theorem dX5_init_123 : decode cX5_init 123 = .ok (.bipush 16, 2) := by decide +kernel
theorem dX5_init_125 : decode cX5_init 125 = .ok (.newarray .int, 2) := by decide +kernel
theorem dX5_init_127 : decode cX5_init 127 = .ok (.putfield 56, 3) := by decide +kernel
theorem dX5_init_130 : decode cX5_init 130 = .ok (.aload_n 0, 1) := by decide +kernel
theorem dX5_init_131 : decode cX5_init 131 = .ok (.bipush 16, 2) := by decide +kernel
theorem dX5_init_133 : decode cX5_init 133 = .ok (.newarray .int, 2) := by decide +kernel
theorem dX5_init_135 : decode cX5_init 135 = .ok (.putfield 59, 3) := by decide +kernel
theorem dX5_init_138 : decode cX5_init 138 = .ok (.aload_n 0, 1) := by decide +kernel
theorem dX5_init_139 : decode cX5_init 139 = .ok (.bipush 48, 2) := by decide +kernel
theorem dX5_init_141 : decode cX5_init 141 = .ok (.newarray .int, 2) := by decide +kernel
theorem dX5_init_143 : decode cX5_init 143 = .ok (.putfield 62, 3) := by decide +kernel
theorem dX5_init_146 : decode cX5_init 146 = .ok (.aload_n 0, 1) := by decide +kernel
theorem dX5_init_147 : decode cX5_init 147 = .ok (.iconst 4, 1) := by decide +kernel
theorem dX5_init_148 : decode cX5_init 148 = .ok (.newarray .int, 2) := by decide +kernel
theorem dX5_init_150 : decode cX5_init 150 = .ok (.putfield 65, 3) := by decide +kernel
theorem dX5_init_153 : decode cX5_init 153 = .ok (.aload_n 0, 1) := by decide +kernel
theorem dX5_init_154 : decode cX5_init 154 = .ok (.getfield 16, 3) := by decide +kernel
theorem dX5_init_157 : decode cX5_init 157 = .ok (.iconst 0, 1) := by decide +kernel
theorem dX5_init_158 : decode cX5_init 158 = .ok (.iconst 2, 1) := by decide +kernel
theorem dX5_init_159 : decode cX5_init 159 = .ok (.iastore, 1) := by decide +kernel
theorem dX5_init_160 : decode cX5_init 160 = .ok (.aload_n 0, 1) := by decide +kernel
theorem dX5_init_161 : decode cX5_init 161 = .ok (.getfield 16, 3) := by decide +kernel
theorem dX5_init_164 : decode cX5_init 164 = .ok (.iconst 1, 1) := by decide +kernel
theorem dX5_init_165 : decode cX5_init 165 = .ok (.iconst 1, 1) := by decide +kernel
theorem dX5_init_166 : decode cX5_init 166 = .ok (.iastore, 1) := by decide +kernel
theorem dX5_init_167 : decode cX5_init 167 = .ok (.aload_n 0, 1) := by decide +kernel
theorem dX5_init_168 : decode cX5_init 168 = .ok (.getfield 16, 3) := by decide +kernel
theorem dX5_init_171 : decode cX5_init 171 = .ok (.iconst 2, 1) := by decide +kernel
theorem dX5_init_172 : decode cX5_init 172 = .ok (.iconst 1, 1) := by decide +kernel
theorem dX5_init_173 : decode cX5_init 173 = .ok (.iastore, 1) := by decide +kernel
theorem dX5_init_174 : decode cX5_init 174 = .ok (.aload_n 0, 1) := by decide +kernel
theorem dX5_init_175 : decode cX5_init 175 = .ok (.getfield 16, 3) := by decide +kernel
theorem dX5_init_178 : decode cX5_init 178 = .ok (.iconst 3, 1) := by decide +kernel
theorem dX5_init_179 : decode cX5_init 179 = .ok (.bipush 8, 2) := by decide +kernel
theorem dX5_init_181 : decode cX5_init 181 = .ok (.iastore, 1) := by decide +kernel
theorem dX5_init_182 : decode cX5_init 182 = .ok (.return_, 1) := by decide +kernel
theorem dX5_in_0 : decode cX5_in 0 = .ok (.lload_n 0, 1) := by decide +kernel
theorem dX5_in_1 : decode cX5_in 1 = .ok (.lload_n 2, 1) := by decide +kernel
theorem dX5_in_2 : decode cX5_in 2 = .ok (.lcmp, 1) := by decide +kernel
theorem dX5_in_3 : decode cX5_in 3 = .ok (.ifCond .lt 14, 3) := by decide +kernel
theorem dX5_in_6 : decode cX5_in 6 = .ok (.lload_n 0, 1) := by decide +kernel
theorem dX5_in_7 : decode cX5_in 7 = .ok (.lload 4, 2) := by decide +kernel
theorem dX5_in_9 : decode cX5_in 9 = .ok (.lcmp, 1) := by decide +kernel
theorem dX5_in_10 : decode cX5_in 10 = .ok (.ifCond .gt 7, 3) := by decide +kernel
theorem dX5_in_13 : decode cX5_in 13 = .ok (.iconst 1, 1) := by decide +kernel
theorem dX5_in_14 : decode cX5_in 14 = .ok (.goto 4, 3) := by decide +kernel
theorem dX5_in_17 : decode cX5_in 17 = .ok (.iconst 0, 1) := by decide +kernel
theorem dX5_in_18 : decode cX5_in 18 = .ok (.ireturn, 1) := by decide +kernel
theorem dX5_write_0 : decode cX5_write 0 = .ok (.iload_n 1, 1) := by decide +kernel
theorem dX5_write_1 : decode cX5_write 1 = .ok (.i2l, 1) := by decide +kernel
theorem dX5_write_2 : decode cX5_write 2 = .ok (.lconst 1, 1) := by decide +kernel
theorem dX5_write_3 : decode cX5_write 3 = .ok (.ldc2_w 68, 3) := by decide +kernel
theorem dX5_write_6 : decode cX5_write 6 = .ok (.invokestatic 70, 3) := by decide +kernel
theorem dX5_write_9 : decode cX5_write 9 = .ok (.ifCond .ne 6, 3) := by decide +kernel
theorem dX5_write_12 : decode cX5_write 12 = .ok (.bipush (-2), 2) := by decide +kernel
theorem dX5_write_14 : decode cX5_write 14 = .ok (.ireturn, 1) := by decide +kernel
theorem dX5_write_15 : decode cX5_write 15 = .ok (.aload_n 0, 1) := by decide +kernel
theorem dX5_write_16 : decode cX5_write 16 = .ok (.getfield 74, 3) := by decide +kernel
theorem dX5_write_19 : decode cX5_write 19 = .ok (.iload_n 1, 1) := by decide +kernel
theorem dX5_write_20 : decode cX5_write 20 = .ok (.iadd, 1) := by decide +kernel
theorem dX5_write_21 : decode cX5_write 21 = .ok (.bipush 48, 2) := by decide +kernel
theorem dX5_write_23 : decode cX5_write 23 = .ok (.if_icmp .le 6, 3) := by decide +kernel
theorem dX5_write_26 : decode cX5_write 26 = .ok (.bipush (-4), 2) := by decide +kernel
theorem dX5_write_28 : decode cX5_write 28 = .ok (.ireturn, 1) := by decide +kernel
theorem dX5_write_29 : decode cX5_write 29 = .ok (.iload_n 1, 1) := by decide +kernel
theorem dX5_write_30 : decode cX5_write 30 = .ok (.iconst 1, 1) := by decide +kernel
theorem dX5_write_31 : decode cX5_write 31 = .ok (.isub, 1) := by decide +kernel
theorem dX5_write_32 : decode cX5_write 32 = .ok (.istore 4, 2) := by decide +kernel
theorem dX5_write_34 : decode cX5_write 34 = .ok (.iload 4, 2) := by decide +kernel
theorem dX5_write_36 : decode cX5_write 36 = .ok (.ifCond .lt 40, 3) := by decide +kernel
theorem dX5_write_39 : decode cX5_write 39 = .ok (.aload_n 0, 1) := by decide +kernel
theorem dX5_write_40 : decode cX5_write 40 = .ok (.getfield 31, 3) := by decide +kernel
theorem dX5_write_43 : decode cX5_write 43 = .ok (.aload_n 0, 1) := by decide +kernel
theorem dX5_write_44 : decode cX5_write 44 = .ok (.getfield 74, 3) := by decide +kernel
theorem dX5_write_47 : decode cX5_write 47 = .ok (.lload_n 2, 1) := by decide +kernel
theorem dX5_write_48 : decode cX5_write 48 = .ok (.bipush 8, 2) := by decide +kernel
theorem dX5_write_50 : decode cX5_write 50 = .ok (.iload 4, 2) := by decide +kernel
theorem dX5_write_52 : decode cX5_write 52 = .ok (.imul, 1) := by decide +kernel
theorem dX5_write_53 : decode cX5_write 53 = .ok (.lshr, 1) := by decide +kernel
theorem dX5_write_54 : decode cX5_write 54 = .ok (.ldc2_w 78, 3) := by decide +kernel
theorem dX5_write_57 : decode cX5_write 57 = .ok (.land, 1) := by decide +kernel
theorem dX5_write_58 : decode cX5_write 58 = .ok (.l2i, 1) := by decide +kernel
theorem dX5_write_59 : decode cX5_write 59 = .ok (.iastore, 1) := by decide +kernel
theorem dX5_write_60 : decode cX5_write 60 = .ok (.aload_n 0, 1) := by decide +kernel
theorem dX5_write_61 : decode cX5_write 61 = .ok (.dup, 1) := by decide +kernel
theorem dX5_write_62 : decode cX5_write 62 = .ok (.getfield 74, 3) := by decide +kernel
theorem dX5_write_65 : decode cX5_write 65 = .ok (.iconst 1, 1) := by decide +kernel
theorem dX5_write_66 : decode cX5_write 66 = .ok (.iadd, 1) := by decide +kernel
theorem dX5_write_67 : decode cX5_write 67 = .ok (.putfield 74, 3) := by decide +kernel
theorem dX5_write_70 : decode cX5_write 70 = .ok (.iinc 4 (-1), 3) := by decide +kernel
theorem dX5_write_73 : decode cX5_write 73 = .ok (.goto (-39), 3) := by decide +kernel
theorem dX5_write_76 : decode cX5_write 76 = .ok (.aload_n 0, 1) := by decide +kernel
theorem dX5_write_77 : decode cX5_write 77 = .ok (.getfield 74, 3) := by decide +kernel
theorem dX5_write_80 : decode cX5_write 80 = .ok (.ireturn, 1) := by decide +kernel
theorem dX5_wipe_0 : decode cX5_wipe 0 = .ok (.aload_n 0, 1) := by decide +kernel
theorem dX5_wipe_1 : decode cX5_wipe 1 = .ok (.getfield 74, 3) := by decide +kernel
theorem dX5_wipe_4 : decode cX5_wipe 4 = .ok (.istore_n 1, 1) := by decide +kernel
theorem dX5_wipe_5 : decode cX5_wipe 5 = .ok (.aload_n 0, 1) := by decide +kernel
theorem dX5_wipe_6 : decode cX5_wipe 6 = .ok (.iconst 0, 1) := by decide +kernel
theorem dX5_wipe_7 : decode cX5_wipe 7 = .ok (.putfield 74, 3) := by decide +kernel
theorem dX5_wipe_10 : decode cX5_wipe 10 = .ok (.iload_n 1, 1) := by decide +kernel
theorem dX5_wipe_11 : decode cX5_wipe 11 = .ok (.ireturn, 1) := by decide +kernel
theorem dX5_figure_0 : decode cX5_figure 0 = .ok (.aload_n 0, 1) := by decide +kernel
theorem dX5_figure_1 : decode cX5_figure 1 = .ok (.getfield 80, 3) := by decide +kernel
theorem dX5_figure_4 : decode cX5_figure 4 = .ok (.bipush (-9), 2) := by decide +kernel
theorem dX5_figure_6 : decode cX5_figure 6 = .ok (.if_icmp .ne 29, 3) := by decide +kernel
theorem dX5_figure_9 : decode cX5_figure 9 = .ok (.aload_n 0, 1) := by decide +kernel
theorem dX5_figure_10 : decode cX5_figure 10 = .ok (.getfield 83, 3) := by decide +kernel
theorem dX5_figure_13 : decode cX5_figure 13 = .ok (.aload_n 0, 1) := by decide +kernel
theorem dX5_figure_14 : decode cX5_figure 14 = .ok (.getfield 74, 3) := by decide +kernel
theorem dX5_figure_17 : decode cX5_figure 17 = .ok (.if_icmp .ge 18, 3) := by decide +kernel
theorem dX5_figure_20 : decode cX5_figure 20 = .ok (.aload_n 0, 1) := by decide +kernel
theorem dX5_figure_21 : decode cX5_figure 21 = .ok (.getfield 31, 3) := by decide +kernel
theorem dX5_figure_24 : decode cX5_figure 24 = .ok (.aload_n 0, 1) := by decide +kernel
theorem dX5_figure_25 : decode cX5_figure 25 = .ok (.getfield 83, 3) := by decide +kernel
theorem dX5_figure_28 : decode cX5_figure 28 = .ok (.iaload, 1) := by decide +kernel
theorem dX5_figure_29 : decode cX5_figure 29 = .ok (.bipush 48, 2) := by decide +kernel
theorem dX5_figure_31 : decode cX5_figure 31 = .ok (.isub, 1) := by decide +kernel
theorem dX5_figure_32 : decode cX5_figure 32 = .ok (.goto 4, 3) := by decide +kernel
theorem dX5_figure_35 : decode cX5_figure 35 = .ok (.iconst (-1), 1) := by decide +kernel
theorem dX5_figure_36 : decode cX5_figure 36 = .ok (.istore_n 2, 1) := by decide +kernel
theorem dX5_figure_37 : decode cX5_figure 37 = .ok (.iload_n 2, 1) := by decide +kernel
theorem dX5_figure_38 : decode cX5_figure 38 = .ok (.i2l, 1) := by decide +kernel
theorem dX5_figure_39 : decode cX5_figure 39 = .ok (.lconst 0, 1) := by decide +kernel
theorem dX5_figure_40 : decode cX5_figure 40 = .ok (.ldc2_w 86, 3) := by decide +kernel
theorem dX5_figure_43 : decode cX5_figure 43 = .ok (.invokestatic 70, 3) := by decide +kernel
theorem dX5_figure_46 : decode cX5_figure 46 = .ok (.ifCond .eq 11, 3) := by decide +kernel
theorem dX5_figure_49 : decode cX5_figure 49 = .ok (.iload_n 1, 1) := by decide +kernel
theorem dX5_figure_50 : decode cX5_figure 50 = .ok (.iload_n 2, 1) := by decide +kernel
theorem dX5_figure_51 : decode cX5_figure 51 = .ok (.ishr, 1) := by decide +kernel
theorem dX5_figure_52 : decode cX5_figure 52 = .ok (.iconst 1, 1) := by decide +kernel
theorem dX5_figure_53 : decode cX5_figure 53 = .ok (.iand, 1) := by decide +kernel
theorem dX5_figure_54 : decode cX5_figure 54 = .ok (.ifCond .ne 29, 3) := by decide +kernel
theorem dX5_figure_57 : decode cX5_figure 57 = .ok (.aload_n 0, 1) := by decide +kernel
theorem dX5_figure_58 : decode cX5_figure 58 = .ok (.aload_n 0, 1) := by decide +kernel
theorem dX5_figure_59 : decode cX5_figure 59 = .ok (.getfield 80, 3) := by decide +kernel
theorem dX5_figure_62 : decode cX5_figure 62 = .ok (.bipush (-9), 2) := by decide +kernel
theorem dX5_figure_64 : decode cX5_figure 64 = .ok (.if_icmp .ne 10, 3) := by decide +kernel
theorem dX5_figure_67 : decode cX5_figure 67 = .ok (.aload_n 0, 1) := by decide +kernel
theorem dX5_figure_68 : decode cX5_figure 68 = .ok (.getfield 83, 3) := by decide +kernel
theorem dX5_figure_71 : decode cX5_figure 71 = .ok (.goto 7, 3) := by decide +kernel
theorem dX5_figure_74 : decode cX5_figure 74 = .ok (.aload_n 0, 1) := by decide +kernel
theorem dX5_figure_75 : decode cX5_figure 75 = .ok (.getfield 80, 3) := by decide +kernel
theorem dX5_figure_78 : decode cX5_figure 78 = .ok (.putfield 80, 3) := by decide +kernel
theorem dX5_figure_81 : decode cX5_figure 81 = .ok (.iconst 0, 1) := by decide +kernel
theorem dX5_figure_82 : decode cX5_figure 82 = .ok (.ireturn, 1) := by decide +kernel
theorem dX5_figure_83 : decode cX5_figure 83 = .ok (.aload_n 0, 1) := by decide +kernel
theorem dX5_figure_84 : decode cX5_figure 84 = .ok (.dup, 1) := by decide +kernel
theorem dX5_figure_85 : decode cX5_figure 85 = .ok (.getfield 83, 3) := by decide +kernel
theorem dX5_figure_88 : decode cX5_figure 88 = .ok (.iconst 1, 1) := by decide +kernel
theorem dX5_figure_89 : decode cX5_figure 89 = .ok (.iadd, 1) := by decide +kernel
theorem dX5_figure_90 : decode cX5_figure 90 = .ok (.putfield 83, 3) := by decide +kernel
theorem dX5_figure_93 : decode cX5_figure 93 = .ok (.iload_n 2, 1) := by decide +kernel
theorem dX5_figure_94 : decode cX5_figure 94 = .ok (.ireturn, 1) := by decide +kernel
theorem dX5_readText_0 : decode cX5_readText 0 = .ok (.aload_n 0, 1) := by decide +kernel
theorem dX5_readText_1 : decode cX5_readText 1 = .ok (.iconst 0, 1) := by decide +kernel
theorem dX5_readText_2 : decode cX5_readText 2 = .ok (.putfield 83, 3) := by decide +kernel
theorem dX5_readText_5 : decode cX5_readText 5 = .ok (.aload_n 0, 1) := by decide +kernel
theorem dX5_readText_6 : decode cX5_readText 6 = .ok (.bipush (-9), 2) := by decide +kernel
theorem dX5_readText_8 : decode cX5_readText 8 = .ok (.putfield 80, 3) := by decide +kernel
theorem dX5_readText_11 : decode cX5_readText 11 = .ok (.aload_n 0, 1) := by decide +kernel
theorem dX5_readText_12 : decode cX5_readText 12 = .ok (.iconst 0, 1) := by decide +kernel
theorem dX5_readText_13 : decode cX5_readText 13 = .ok (.putfield 88, 3) := by decide +kernel
theorem dX5_readText_16 : decode cX5_readText 16 = .ok (.aload_n 0, 1) := by decide +kernel
theorem dX5_readText_17 : decode cX5_readText 17 = .ok (.getfield 74, 3) := by decide +kernel
theorem dX5_readText_20 : decode cX5_readText 20 = .ok (.ifCond .eq 14, 3) := by decide +kernel
theorem dX5_readText_23 : decode cX5_readText 23 = .ok (.aload_n 0, 1) := by decide +kernel
theorem dX5_readText_24 : decode cX5_readText 24 = .ok (.getfield 31, 3) := by decide +kernel
theorem dX5_readText_27 : decode cX5_readText 27 = .ok (.iconst 0, 1) := by decide +kernel
theorem dX5_readText_28 : decode cX5_readText 28 = .ok (.iaload, 1) := by decide +kernel
theorem dX5_readText_29 : decode cX5_readText 29 = .ok (.bipush 66, 2) := by decide +kernel
theorem dX5_readText_31 : decode cX5_readText 31 = .ok (.if_icmp .eq 5, 3) := by decide +kernel
theorem dX5_readText_34 : decode cX5_readText 34 = .ok (.iconst 0, 1) := by decide +kernel
theorem dX5_readText_35 : decode cX5_readText 35 = .ok (.ireturn, 1) := by decide +kernel
theorem dX5_readText_36 : decode cX5_readText 36 = .ok (.aload_n 0, 1) := by decide +kernel
theorem dX5_readText_37 : decode cX5_readText 37 = .ok (.iconst 1, 1) := by decide +kernel
theorem dX5_readText_38 : decode cX5_readText 38 = .ok (.putfield 83, 3) := by decide +kernel
theorem dX5_readText_41 : decode cX5_readText 41 = .ok (.aload_n 0, 1) := by decide +kernel
theorem dX5_readText_42 : decode cX5_readText 42 = .ok (.getfield 7, 3) := by decide +kernel
theorem dX5_readText_45 : decode cX5_readText 45 = .ok (.iconst 0, 1) := by decide +kernel
theorem dX5_readText_46 : decode cX5_readText 46 = .ok (.aload_n 0, 1) := by decide +kernel
theorem dX5_readText_47 : decode cX5_readText 47 = .ok (.bipush 12, 2) := by decide +kernel
theorem dX5_readText_49 : decode cX5_readText 49 = .ok (.invokevirtual 91, 3) := by decide +kernel
theorem dX5_readText_52 : decode cX5_readText 52 = .ok (.iastore, 1) := by decide +kernel
theorem dX5_readText_53 : decode cX5_readText 53 = .ok (.aload_n 0, 1) := by decide +kernel
theorem dX5_readText_54 : decode cX5_readText 54 = .ok (.getfield 7, 3) := by decide +kernel
theorem dX5_readText_57 : decode cX5_readText 57 = .ok (.iconst 1, 1) := by decide +kernel
theorem dX5_readText_58 : decode cX5_readText 58 = .ok (.aload_n 0, 1) := by decide +kernel
theorem dX5_readText_59 : decode cX5_readText 59 = .ok (.bipush 14, 2) := by decide +kernel
theorem dX5_readText_61 : decode cX5_readText 61 = .ok (.invokevirtual 91, 3) := by decide +kernel
theorem dX5_readText_64 : decode cX5_readText 64 = .ok (.iastore, 1) := by decide +kernel
theorem dX5_readText_65 : decode cX5_readText 65 = .ok (.aload_n 0, 1) := by decide +kernel
theorem dX5_readText_66 : decode cX5_readText 66 = .ok (.getfield 7, 3) := by decide +kernel
theorem dX5_readText_69 : decode cX5_readText 69 = .ok (.iconst 2, 1) := by decide +kernel
theorem dX5_readText_70 : decode cX5_readText 70 = .ok (.aload_n 0, 1) := by decide +kernel
theorem dX5_readText_71 : decode cX5_readText 71 = .ok (.bipush 14, 2) := by decide +kernel
theorem dX5_readText_73 : decode cX5_readText 73 = .ok (.invokevirtual 91, 3) := by decide +kernel
theorem dX5_readText_76 : decode cX5_readText 76 = .ok (.iastore, 1) := by decide +kernel
theorem dX5_readText_77 : decode cX5_readText 77 = .ok (.aload_n 0, 1) := by decide +kernel
theorem dX5_readText_78 : decode cX5_readText 78 = .ok (.getfield 7, 3) := by decide +kernel
theorem dX5_readText_81 : decode cX5_readText 81 = .ok (.iconst 3, 1) := by decide +kernel
theorem dX5_readText_82 : decode cX5_readText 82 = .ok (.aload_n 0, 1) := by decide +kernel
theorem dX5_readText_83 : decode cX5_readText 83 = .ok (.sipush 510, 3) := by decide +kernel
theorem dX5_readText_86 : decode cX5_readText 86 = .ok (.invokevirtual 91, 3) := by decide +kernel
theorem dX5_readText_89 : decode cX5_readText 89 = .ok (.iastore, 1) := by decide +kernel
theorem dX5_readText_90 : decode cX5_readText 90 = .ok (.aload_n 0, 1) := by decide +kernel
theorem dX5_readText_91 : decode cX5_readText 91 = .ok (.getfield 7, 3) := by decide +kernel
theorem dX5_readText_94 : decode cX5_readText 94 = .ok (.iconst 4, 1) := by decide +kernel
theorem dX5_readText_95 : decode cX5_readText 95 = .ok (.aload_n 0, 1) := by decide +kernel
theorem dX5_readText_96 : decode cX5_readText 96 = .ok (.sipush 1023, 3) := by decide +kernel
theorem dX5_readText_99 : decode cX5_readText 99 = .ok (.invokevirtual 91, 3) := by decide +kernel
theorem dX5_readText_102 : decode cX5_readText 102 = .ok (.iastore, 1) := by decide +kernel
theorem dX5_readText_103 : decode cX5_readText 103 = .ok (.aload_n 0, 1) := by decide +kernel
theorem dX5_readText_104 : decode cX5_readText 104 = .ok (.getfield 80, 3) := by decide +kernel
theorem dX5_readText_107 : decode cX5_readText 107 = .ok (.bipush (-9), 2) := by decide +kernel
theorem dX5_readText_109 : decode cX5_readText 109 = .ok (.if_icmp .ne 158, 3) := by decide +kernel
theorem dX5_readText_112 : decode cX5_readText 112 = .ok (.aload_n 0, 1) := by decide +kernel
theorem dX5_readText_113 : decode cX5_readText 113 = .ok (.getfield 83, 3) := by decide +kernel
theorem dX5_readText_116 : decode cX5_readText 116 = .ok (.aload_n 0, 1) := by decide +kernel
theorem dX5_readText_117 : decode cX5_readText 117 = .ok (.getfield 74, 3) := by decide +kernel
theorem dX5_readText_120 : decode cX5_readText 120 = .ok (.if_icmp .ge 147, 3) := by decide +kernel
theorem dX5_readText_123 : decode cX5_readText 123 = .ok (.aload_n 0, 1) := by decide +kernel
theorem dX5_readText_124 : decode cX5_readText 124 = .ok (.getfield 31, 3) := by decide +kernel
theorem dX5_readText_127 : decode cX5_readText 127 = .ok (.aload_n 0, 1) := by decide +kernel
theorem dX5_readText_128 : decode cX5_readText 128 = .ok (.getfield 83, 3) := by decide +kernel
theorem dX5_readText_131 : decode cX5_readText 131 = .ok (.iaload, 1) := by decide +kernel
theorem dX5_readText_132 : decode cX5_readText 132 = .ok (.bipush 80, 2) := by decide +kernel
theorem dX5_readText_134 : decode cX5_readText 134 = .ok (.if_icmp .ne 122, 3) := by decide +kernel
theorem dX5_readText_137 : decode cX5_readText 137 = .ok (.aload_n 0, 1) := by decide +kernel
theorem dX5_readText_138 : decode cX5_readText 138 = .ok (.getfield 88, 3) := by decide +kernel
theorem dX5_readText_141 : decode cX5_readText 141 = .ok (.bipush 8, 2) := by decide +kernel
theorem dX5_readText_143 : decode cX5_readText 143 = .ok (.if_icmp .ge 113, 3) := by decide +kernel
theorem dX5_readText_146 : decode cX5_readText 146 = .ok (.aload_n 0, 1) := by decide +kernel
theorem dX5_readText_147 : decode cX5_readText 147 = .ok (.dup, 1) := by decide +kernel
theorem dX5_readText_148 : decode cX5_readText 148 = .ok (.getfield 83, 3) := by decide +kernel
theorem dX5_readText_151 : decode cX5_readText 151 = .ok (.iconst 1, 1) := by decide +kernel
theorem dX5_readText_152 : decode cX5_readText 152 = .ok (.iadd, 1) := by decide +kernel
theorem dX5_readText_153 : decode cX5_readText 153 = .ok (.putfield 83, 3) := by decide +kernel
theorem dX5_readText_156 : decode cX5_readText 156 = .ok (.iconst 3, 1) := by decide +kernel
theorem dX5_readText_157 : decode cX5_readText 157 = .ok (.aload_n 0, 1) := by decide +kernel
theorem dX5_readText_158 : decode cX5_readText 158 = .ok (.getfield 88, 3) := by decide +kernel
theorem dX5_readText_161 : decode cX5_readText 161 = .ok (.imul, 1) := by decide +kernel
theorem dX5_readText_162 : decode cX5_readText 162 = .ok (.istore_n 1, 1) := by decide +kernel
theorem dX5_readText_163 : decode cX5_readText 163 = .ok (.aload_n 0, 1) := by decide +kernel
theorem dX5_readText_164 : decode cX5_readText 164 = .ok (.sipush 1023, 3) := by decide +kernel
theorem dX5_readText_167 : decode cX5_readText 167 = .ok (.invokevirtual 91, 3) := by decide +kernel
theorem dX5_readText_170 : decode cX5_readText 170 = .ok (.istore_n 2, 1) := by decide +kernel
theorem dX5_readText_171 : decode cX5_readText 171 = .ok (.aload_n 0, 1) := by decide +kernel
theorem dX5_readText_172 : decode cX5_readText 172 = .ok (.getfield 13, 3) := by decide +kernel
theorem dX5_readText_175 : decode cX5_readText 175 = .ok (.iload_n 1, 1) := by decide +kernel
theorem dX5_readText_176 : decode cX5_readText 176 = .ok (.bipush 10, 2) := by decide +kernel
theorem dX5_readText_178 : decode cX5_readText 178 = .ok (.iload_n 2, 1) := by decide +kernel
theorem dX5_readText_179 : decode cX5_readText 179 = .ok (.imul, 1) := by decide +kernel
theorem dX5_readText_180 : decode cX5_readText 180 = .ok (.aload_n 0, 1) := by decide +kernel
theorem dX5_readText_181 : decode cX5_readText 181 = .ok (.iload_n 2, 1) := by decide +kernel
theorem dX5_readText_182 : decode cX5_readText 182 = .ok (.ifCond .ne 9, 3) := by decide +kernel
theorem dX5_readText_185 : decode cX5_readText 185 = .ok (.sipush 1022, 3) := by decide +kernel
theorem dX5_readText_188 : decode cX5_readText 188 = .ok (.goto 6, 3) := by decide +kernel
theorem dX5_readText_191 : decode cX5_readText 191 = .ok (.sipush 1023, 3) := by decide +kernel
theorem dX5_readText_194 : decode cX5_readText 194 = .ok (.invokevirtual 91, 3) := by decide +kernel
theorem dX5_readText_197 : decode cX5_readText 197 = .ok (.iadd, 1) := by decide +kernel
theorem dX5_readText_198 : decode cX5_readText 198 = .ok (.iastore, 1) := by decide +kernel
theorem dX5_readText_199 : decode cX5_readText 199 = .ok (.aload_n 0, 1) := by decide +kernel
theorem dX5_readText_200 : decode cX5_readText 200 = .ok (.getfield 13, 3) := by decide +kernel
theorem dX5_readText_203 : decode cX5_readText 203 = .ok (.iload_n 1, 1) := by decide +kernel
theorem dX5_readText_204 : decode cX5_readText 204 = .ok (.iconst 1, 1) := by decide +kernel
theorem dX5_readText_205 : decode cX5_readText 205 = .ok (.iadd, 1) := by decide +kernel
theorem dX5_readText_206 : decode cX5_readText 206 = .ok (.aload_n 0, 1) := by decide +kernel
theorem dX5_readText_207 : decode cX5_readText 207 = .ok (.sipush 1023, 3) := by decide +kernel
theorem dX5_readText_210 : decode cX5_readText 210 = .ok (.invokevirtual 91, 3) := by decide +kernel
theorem dX5_readText_213 : decode cX5_readText 213 = .ok (.iastore, 1) := by decide +kernel
theorem dX5_readText_214 : decode cX5_readText 214 = .ok (.aload_n 0, 1) := by decide +kernel
theorem dX5_readText_215 : decode cX5_readText 215 = .ok (.getfield 13, 3) := by decide +kernel
theorem dX5_readText_218 : decode cX5_readText 218 = .ok (.iload_n 1, 1) := by decide +kernel
theorem dX5_readText_219 : decode cX5_readText 219 = .ok (.iconst 2, 1) := by decide +kernel
theorem dX5_readText_220 : decode cX5_readText 220 = .ok (.iadd, 1) := by decide +kernel
theorem dX5_readText_221 : decode cX5_readText 221 = .ok (.aload_n 0, 1) := by decide +kernel
theorem dX5_readText_222 : decode cX5_readText 222 = .ok (.aload_n 0, 1) := by decide +kernel
theorem dX5_readText_223 : decode cX5_readText 223 = .ok (.getfield 7, 3) := by decide +kernel
theorem dX5_readText_226 : decode cX5_readText 226 = .ok (.iconst 0, 1) := by decide +kernel
theorem dX5_readText_227 : decode cX5_readText 227 = .ok (.iaload, 1) := by decide +kernel
theorem dX5_readText_228 : decode cX5_readText 228 = .ok (.iconst 2, 1) := by decide +kernel
theorem dX5_readText_229 : decode cX5_readText 229 = .ok (.if_icmp .ne 8, 3) := by decide +kernel
theorem dX5_readText_232 : decode cX5_readText 232 = .ok (.bipush 11, 2) := by decide +kernel
theorem dX5_readText_234 : decode cX5_readText 234 = .ok (.goto 5, 3) := by decide +kernel
theorem dX5_readText_237 : decode cX5_readText 237 = .ok (.bipush 15, 2) := by decide +kernel
theorem dX5_readText_239 : decode cX5_readText 239 = .ok (.invokevirtual 91, 3) := by decide +kernel
theorem dX5_readText_242 : decode cX5_readText 242 = .ok (.iastore, 1) := by decide +kernel
theorem dX5_readText_243 : decode cX5_readText 243 = .ok (.aload_n 0, 1) := by decide +kernel
theorem dX5_readText_244 : decode cX5_readText 244 = .ok (.dup, 1) := by decide +kernel
theorem dX5_readText_245 : decode cX5_readText 245 = .ok (.getfield 88, 3) := by decide +kernel
theorem dX5_readText_248 : decode cX5_readText 248 = .ok (.iconst 1, 1) := by decide +kernel
theorem dX5_readText_249 : decode cX5_readText 249 = .ok (.iadd, 1) := by decide +kernel
theorem dX5_readText_250 : decode cX5_readText 250 = .ok (.putfield 88, 3) := by decide +kernel
theorem dX5_readText_253 : decode cX5_readText 253 = .ok (.goto (-150), 3) := by decide +kernel
theorem dX5_readText_256 : decode cX5_readText 256 = .ok (.aload_n 0, 1) := by decide +kernel
theorem dX5_readText_257 : decode cX5_readText 257 = .ok (.aload_n 0, 1) := by decide +kernel
theorem dX5_readText_258 : decode cX5_readText 258 = .ok (.getfield 83, 3) := by decide +kernel
theorem dX5_readText_261 : decode cX5_readText 261 = .ok (.putfield 80, 3) := by decide +kernel
theorem dX5_readText_264 : decode cX5_readText 264 = .ok (.goto (-161), 3) := by decide +kernel
theorem dX5_readText_267 : decode cX5_readText 267 = .ok (.aload_n 0, 1) := by decide +kernel
theorem dX5_readText_268 : decode cX5_readText 268 = .ok (.getfield 80, 3) := by decide +kernel
theorem dX5_readText_271 : decode cX5_readText 271 = .ok (.ireturn, 1) := by decide +kernel
theorem dX5_fault_0 : decode cX5_fault 0 = .ok (.aload_n 0, 1) := by decide +kernel
theorem dX5_fault_1 : decode cX5_fault 1 = .ok (.invokevirtual 95, 3) := by decide +kernel
theorem dX5_fault_4 : decode cX5_fault 4 = .ok (.ireturn, 1) := by decide +kernel
theorem dX5_ferry_0 : decode cX5_ferry 0 = .ok (.aload_n 0, 1) := by decide +kernel
theorem dX5_ferry_1 : decode cX5_ferry 1 = .ok (.invokevirtual 95, 3) := by decide +kernel
theorem dX5_ferry_4 : decode cX5_ferry 4 = .ok (.bipush (-9), 2) := by decide +kernel
theorem dX5_ferry_6 : decode cX5_ferry 6 = .ok (.if_icmp .eq 6, 3) := by decide +kernel
theorem dX5_ferry_9 : decode cX5_ferry 9 = .ok (.bipush (-3), 2) := by decide +kernel
theorem dX5_ferry_11 : decode cX5_ferry 11 = .ok (.ireturn, 1) := by decide +kernel
theorem dX5_ferry_12 : decode cX5_ferry 12 = .ok (.iconst 0, 1) := by decide +kernel
theorem dX5_ferry_13 : decode cX5_ferry 13 = .ok (.istore_n 1, 1) := by decide +kernel
theorem dX5_ferry_14 : decode cX5_ferry 14 = .ok (.iload_n 1, 1) := by decide +kernel
theorem dX5_ferry_15 : decode cX5_ferry 15 = .ok (.iconst 5, 1) := by decide +kernel
theorem dX5_ferry_16 : decode cX5_ferry 16 = .ok (.if_icmp .ge 21, 3) := by decide +kernel
theorem dX5_ferry_19 : decode cX5_ferry 19 = .ok (.aload_n 0, 1) := by decide +kernel
theorem dX5_ferry_20 : decode cX5_ferry 20 = .ok (.getfield 16, 3) := by decide +kernel
theorem dX5_ferry_23 : decode cX5_ferry 23 = .ok (.iload_n 1, 1) := by decide +kernel
theorem dX5_ferry_24 : decode cX5_ferry 24 = .ok (.aload_n 0, 1) := by decide +kernel
theorem dX5_ferry_25 : decode cX5_ferry 25 = .ok (.getfield 7, 3) := by decide +kernel
theorem dX5_ferry_28 : decode cX5_ferry 28 = .ok (.iload_n 1, 1) := by decide +kernel
theorem dX5_ferry_29 : decode cX5_ferry 29 = .ok (.iaload, 1) := by decide +kernel
theorem dX5_ferry_30 : decode cX5_ferry 30 = .ok (.iastore, 1) := by decide +kernel
theorem dX5_ferry_31 : decode cX5_ferry 31 = .ok (.iinc 1 1, 3) := by decide +kernel
theorem dX5_ferry_34 : decode cX5_ferry 34 = .ok (.goto (-20), 3) := by decide +kernel
theorem dX5_ferry_37 : decode cX5_ferry 37 = .ok (.aload_n 0, 1) := by decide +kernel
theorem dX5_ferry_38 : decode cX5_ferry 38 = .ok (.aload_n 0, 1) := by decide +kernel
theorem dX5_ferry_39 : decode cX5_ferry 39 = .ok (.getfield 88, 3) := by decide +kernel
theorem dX5_ferry_42 : decode cX5_ferry 42 = .ok (.putfield 99, 3) := by decide +kernel
theorem dX5_ferry_45 : decode cX5_ferry 45 = .ok (.iconst 0, 1) := by decide +kernel
theorem dX5_ferry_46 : decode cX5_ferry 46 = .ok (.istore_n 1, 1) := by decide +kernel
theorem dX5_ferry_47 : decode cX5_ferry 47 = .ok (.iload_n 1, 1) := by decide +kernel
theorem dX5_ferry_48 : decode cX5_ferry 48 = .ok (.aload_n 0, 1) := by decide +kernel
theorem dX5_ferry_49 : decode cX5_ferry 49 = .ok (.getfield 99, 3) := by decide +kernel
theorem dX5_ferry_52 : decode cX5_ferry 52 = .ok (.if_icmp .ge 94, 3) := by decide +kernel
theorem dX5_ferry_55 : decode cX5_ferry 55 = .ok (.aload_n 0, 1) := by decide +kernel
theorem dX5_ferry_56 : decode cX5_ferry 56 = .ok (.getfield 19, 3) := by decide +kernel
theorem dX5_ferry_59 : decode cX5_ferry 59 = .ok (.iconst 3, 1) := by decide +kernel
theorem dX5_ferry_60 : decode cX5_ferry 60 = .ok (.iload_n 1, 1) := by decide +kernel
theorem dX5_ferry_61 : decode cX5_ferry 61 = .ok (.imul, 1) := by decide +kernel
theorem dX5_ferry_62 : decode cX5_ferry 62 = .ok (.aload_n 0, 1) := by decide +kernel
theorem dX5_ferry_63 : decode cX5_ferry 63 = .ok (.getfield 13, 3) := by decide +kernel
theorem dX5_ferry_66 : decode cX5_ferry 66 = .ok (.iconst 3, 1) := by decide +kernel
theorem dX5_ferry_67 : decode cX5_ferry 67 = .ok (.iload_n 1, 1) := by decide +kernel
theorem dX5_ferry_68 : decode cX5_ferry 68 = .ok (.imul, 1) := by decide +kernel
theorem dX5_ferry_69 : decode cX5_ferry 69 = .ok (.iaload, 1) := by decide +kernel
theorem dX5_ferry_70 : decode cX5_ferry 70 = .ok (.iastore, 1) := by decide +kernel
theorem dX5_ferry_71 : decode cX5_ferry 71 = .ok (.aload_n 0, 1) := by decide +kernel
theorem dX5_ferry_72 : decode cX5_ferry 72 = .ok (.getfield 19, 3) := by decide +kernel
theorem dX5_ferry_75 : decode cX5_ferry 75 = .ok (.iconst 3, 1) := by decide +kernel
theorem dX5_ferry_76 : decode cX5_ferry 76 = .ok (.iload_n 1, 1) := by decide +kernel
theorem dX5_ferry_77 : decode cX5_ferry 77 = .ok (.imul, 1) := by decide +kernel
theorem dX5_ferry_78 : decode cX5_ferry 78 = .ok (.iconst 1, 1) := by decide +kernel
theorem dX5_ferry_79 : decode cX5_ferry 79 = .ok (.iadd, 1) := by decide +kernel
theorem dX5_ferry_80 : decode cX5_ferry 80 = .ok (.aload_n 0, 1) := by decide +kernel
theorem dX5_ferry_81 : decode cX5_ferry 81 = .ok (.getfield 13, 3) := by decide +kernel
theorem dX5_ferry_84 : decode cX5_ferry 84 = .ok (.iconst 3, 1) := by decide +kernel
theorem dX5_ferry_85 : decode cX5_ferry 85 = .ok (.iload_n 1, 1) := by decide +kernel
theorem dX5_ferry_86 : decode cX5_ferry 86 = .ok (.imul, 1) := by decide +kernel
theorem dX5_ferry_87 : decode cX5_ferry 87 = .ok (.iconst 1, 1) := by decide +kernel
theorem dX5_ferry_88 : decode cX5_ferry 88 = .ok (.iadd, 1) := by decide +kernel
theorem dX5_ferry_89 : decode cX5_ferry 89 = .ok (.iaload, 1) := by decide +kernel
theorem dX5_ferry_90 : decode cX5_ferry 90 = .ok (.iastore, 1) := by decide +kernel
theorem dX5_ferry_91 : decode cX5_ferry 91 = .ok (.aload_n 0, 1) := by decide +kernel
theorem dX5_ferry_92 : decode cX5_ferry 92 = .ok (.getfield 19, 3) := by decide +kernel
theorem dX5_ferry_95 : decode cX5_ferry 95 = .ok (.iconst 3, 1) := by decide +kernel
theorem dX5_ferry_96 : decode cX5_ferry 96 = .ok (.iload_n 1, 1) := by decide +kernel
theorem dX5_ferry_97 : decode cX5_ferry 97 = .ok (.imul, 1) := by decide +kernel
theorem dX5_ferry_98 : decode cX5_ferry 98 = .ok (.iconst 2, 1) := by decide +kernel
theorem dX5_ferry_99 : decode cX5_ferry 99 = .ok (.iadd, 1) := by decide +kernel
theorem dX5_ferry_100 : decode cX5_ferry 100 = .ok (.aload_n 0, 1) := by decide +kernel
theorem dX5_ferry_101 : decode cX5_ferry 101 = .ok (.getfield 13, 3) := by decide +kernel
theorem dX5_ferry_104 : decode cX5_ferry 104 = .ok (.iconst 3, 1) := by decide +kernel
theorem dX5_ferry_105 : decode cX5_ferry 105 = .ok (.iload_n 1, 1) := by decide +kernel
theorem dX5_ferry_106 : decode cX5_ferry 106 = .ok (.imul, 1) := by decide +kernel
theorem dX5_ferry_107 : decode cX5_ferry 107 = .ok (.iconst 2, 1) := by decide +kernel
theorem dX5_ferry_108 : decode cX5_ferry 108 = .ok (.iadd, 1) := by decide +kernel
theorem dX5_ferry_109 : decode cX5_ferry 109 = .ok (.iaload, 1) := by decide +kernel
theorem dX5_ferry_110 : decode cX5_ferry 110 = .ok (.iastore, 1) := by decide +kernel
theorem dX5_ferry_111 : decode cX5_ferry 111 = .ok (.aload_n 0, 1) := by decide +kernel
theorem dX5_ferry_112 : decode cX5_ferry 112 = .ok (.getfield 22, 3) := by decide +kernel
theorem dX5_ferry_115 : decode cX5_ferry 115 = .ok (.iload_n 1, 1) := by decide +kernel
theorem dX5_ferry_116 : decode cX5_ferry 116 = .ok (.iconst 0, 1) := by decide +kernel
theorem dX5_ferry_117 : decode cX5_ferry 117 = .ok (.iastore, 1) := by decide +kernel
theorem dX5_ferry_118 : decode cX5_ferry 118 = .ok (.aload_n 0, 1) := by decide +kernel
theorem dX5_ferry_119 : decode cX5_ferry 119 = .ok (.getfield 25, 3) := by decide +kernel
theorem dX5_ferry_122 : decode cX5_ferry 122 = .ok (.iload_n 1, 1) := by decide +kernel
theorem dX5_ferry_123 : decode cX5_ferry 123 = .ok (.aload_n 0, 1) := by decide +kernel
theorem dX5_ferry_124 : decode cX5_ferry 124 = .ok (.getfield 19, 3) := by decide +kernel
theorem dX5_ferry_127 : decode cX5_ferry 127 = .ok (.iconst 3, 1) := by decide +kernel
theorem dX5_ferry_128 : decode cX5_ferry 128 = .ok (.iload_n 1, 1) := by decide +kernel
theorem dX5_ferry_129 : decode cX5_ferry 129 = .ok (.imul, 1) := by decide +kernel
theorem dX5_ferry_130 : decode cX5_ferry 130 = .ok (.iaload, 1) := by decide +kernel
theorem dX5_ferry_131 : decode cX5_ferry 131 = .ok (.iastore, 1) := by decide +kernel
theorem dX5_ferry_132 : decode cX5_ferry 132 = .ok (.aload_n 0, 1) := by decide +kernel
theorem dX5_ferry_133 : decode cX5_ferry 133 = .ok (.getfield 28, 3) := by decide +kernel
theorem dX5_ferry_136 : decode cX5_ferry 136 = .ok (.iload_n 1, 1) := by decide +kernel
theorem dX5_ferry_137 : decode cX5_ferry 137 = .ok (.bipush 10, 2) := by decide +kernel
theorem dX5_ferry_139 : decode cX5_ferry 139 = .ok (.iastore, 1) := by decide +kernel
theorem dX5_ferry_140 : decode cX5_ferry 140 = .ok (.iinc 1 1, 3) := by decide +kernel
theorem dX5_ferry_143 : decode cX5_ferry 143 = .ok (.goto (-96), 3) := by decide +kernel
theorem dX5_ferry_146 : decode cX5_ferry 146 = .ok (.aload_n 0, 1) := by decide +kernel
theorem dX5_ferry_147 : decode cX5_ferry 147 = .ok (.iconst 0, 1) := by decide +kernel
theorem dX5_ferry_148 : decode cX5_ferry 148 = .ok (.putfield 102, 3) := by decide +kernel
theorem dX5_ferry_151 : decode cX5_ferry 151 = .ok (.aload_n 0, 1) := by decide +kernel
theorem dX5_ferry_152 : decode cX5_ferry 152 = .ok (.iconst 0, 1) := by decide +kernel
theorem dX5_ferry_153 : decode cX5_ferry 153 = .ok (.putfield 105, 3) := by decide +kernel
theorem dX5_ferry_156 : decode cX5_ferry 156 = .ok (.aload_n 0, 1) := by decide +kernel
theorem dX5_ferry_157 : decode cX5_ferry 157 = .ok (.getfield 50, 3) := by decide +kernel
theorem dX5_ferry_160 : decode cX5_ferry 160 = .ok (.iconst 0, 1) := by decide +kernel
theorem dX5_ferry_161 : decode cX5_ferry 161 = .ok (.iconst 0, 1) := by decide +kernel
theorem dX5_ferry_162 : decode cX5_ferry 162 = .ok (.bastore, 1) := by decide +kernel
theorem dX5_ferry_163 : decode cX5_ferry 163 = .ok (.aload_n 0, 1) := by decide +kernel
theorem dX5_ferry_164 : decode cX5_ferry 164 = .ok (.getfield 50, 3) := by decide +kernel
theorem dX5_ferry_167 : decode cX5_ferry 167 = .ok (.iconst 1, 1) := by decide +kernel
theorem dX5_ferry_168 : decode cX5_ferry 168 = .ok (.iconst 0, 1) := by decide +kernel
theorem dX5_ferry_169 : decode cX5_ferry 169 = .ok (.bastore, 1) := by decide +kernel
theorem dX5_ferry_170 : decode cX5_ferry 170 = .ok (.aload_n 0, 1) := by decide +kernel
theorem dX5_ferry_171 : decode cX5_ferry 171 = .ok (.getfield 99, 3) := by decide +kernel
theorem dX5_ferry_174 : decode cX5_ferry 174 = .ok (.ireturn, 1) := by decide +kernel
theorem dX5_isPerson_0 : decode cX5_isPerson 0 = .ok (.iload_n 1, 1) := by decide +kernel
theorem dX5_isPerson_1 : decode cX5_isPerson 1 = .ok (.i2l, 1) := by decide +kernel
theorem dX5_isPerson_2 : decode cX5_isPerson 2 = .ok (.lconst 0, 1) := by decide +kernel
theorem dX5_isPerson_3 : decode cX5_isPerson 3 = .ok (.aload_n 0, 1) := by decide +kernel
theorem dX5_isPerson_4 : decode cX5_isPerson 4 = .ok (.getfield 99, 3) := by decide +kernel
theorem dX5_isPerson_7 : decode cX5_isPerson 7 = .ok (.iconst 1, 1) := by decide +kernel
theorem dX5_isPerson_8 : decode cX5_isPerson 8 = .ok (.isub, 1) := by decide +kernel
theorem dX5_isPerson_9 : decode cX5_isPerson 9 = .ok (.i2l, 1) := by decide +kernel
theorem dX5_isPerson_10 : decode cX5_isPerson 10 = .ok (.invokestatic 70, 3) := by decide +kernel
theorem dX5_isPerson_13 : decode cX5_isPerson 13 = .ok (.ireturn, 1) := by decide +kernel
theorem dX5_isEnd_0 : decode cX5_isEnd 0 = .ok (.iload_n 1, 1) := by decide +kernel
theorem dX5_isEnd_1 : decode cX5_isEnd 1 = .ok (.i2l, 1) := by decide +kernel
theorem dX5_isEnd_2 : decode cX5_isEnd 2 = .ok (.lconst 0, 1) := by decide +kernel
theorem dX5_isEnd_3 : decode cX5_isEnd 3 = .ok (.aload_n 0, 1) := by decide +kernel
theorem dX5_isEnd_4 : decode cX5_isEnd 4 = .ok (.getfield 16, 3) := by decide +kernel
theorem dX5_isEnd_7 : decode cX5_isEnd 7 = .ok (.iconst 0, 1) := by decide +kernel
theorem dX5_isEnd_8 : decode cX5_isEnd 8 = .ok (.iaload, 1) := by decide +kernel
theorem dX5_isEnd_9 : decode cX5_isEnd 9 = .ok (.iconst 1, 1) := by decide +kernel
theorem dX5_isEnd_10 : decode cX5_isEnd 10 = .ok (.isub, 1) := by decide +kernel
theorem dX5_isEnd_11 : decode cX5_isEnd 11 = .ok (.i2l, 1) := by decide +kernel
theorem dX5_isEnd_12 : decode cX5_isEnd 12 = .ok (.invokestatic 70, 3) := by decide +kernel
theorem dX5_isEnd_15 : decode cX5_isEnd 15 = .ok (.ireturn, 1) := by decide +kernel
theorem dX5_boat_0 : decode cX5_boat 0 = .ok (.iload_n 1, 1) := by decide +kernel
theorem dX5_boat_1 : decode cX5_boat 1 = .ok (.i2l, 1) := by decide +kernel
theorem dX5_boat_2 : decode cX5_boat 2 = .ok (.lconst 0, 1) := by decide +kernel
theorem dX5_boat_3 : decode cX5_boat 3 = .ok (.ldc2_w 108, 3) := by decide +kernel
theorem dX5_boat_6 : decode cX5_boat 6 = .ok (.invokestatic 70, 3) := by decide +kernel
theorem dX5_boat_9 : decode cX5_boat 9 = .ok (.ifCond .eq 12, 3) := by decide +kernel
theorem dX5_boat_12 : decode cX5_boat 12 = .ok (.aload_n 0, 1) := by decide +kernel
theorem dX5_boat_13 : decode cX5_boat 13 = .ok (.getfield 16, 3) := by decide +kernel
theorem dX5_boat_16 : decode cX5_boat 16 = .ok (.iload_n 1, 1) := by decide +kernel
theorem dX5_boat_17 : decode cX5_boat 17 = .ok (.iaload, 1) := by decide +kernel
theorem dX5_boat_18 : decode cX5_boat 18 = .ok (.goto 17, 3) := by decide +kernel
theorem dX5_boat_21 : decode cX5_boat 21 = .ok (.iload_n 1, 1) := by decide +kernel
theorem dX5_boat_22 : decode cX5_boat 22 = .ok (.iconst 5, 1) := by decide +kernel
theorem dX5_boat_23 : decode cX5_boat 23 = .ok (.if_icmp .ne 10, 3) := by decide +kernel
theorem dX5_boat_26 : decode cX5_boat 26 = .ok (.aload_n 0, 1) := by decide +kernel
theorem dX5_boat_27 : decode cX5_boat 27 = .ok (.getfield 102, 3) := by decide +kernel
theorem dX5_boat_30 : decode cX5_boat 30 = .ok (.goto 5, 3) := by decide +kernel
theorem dX5_boat_33 : decode cX5_boat 33 = .ok (.bipush (-2), 2) := by decide +kernel
theorem dX5_boat_35 : decode cX5_boat 35 = .ok (.ireturn, 1) := by decide +kernel
theorem dX5_person_0 : decode cX5_person 0 = .ok (.aload_n 0, 1) := by decide +kernel
theorem dX5_person_1 : decode cX5_person 1 = .ok (.iload_n 1, 1) := by decide +kernel
theorem dX5_person_2 : decode cX5_person 2 = .ok (.invokevirtual 110, 3) := by decide +kernel
theorem dX5_person_5 : decode cX5_person 5 = .ok (.ifCond .ne 5, 3) := by decide +kernel
theorem dX5_person_8 : decode cX5_person 8 = .ok (.iconst (-1), 1) := by decide +kernel
theorem dX5_person_9 : decode cX5_person 9 = .ok (.ireturn, 1) := by decide +kernel
theorem dX5_person_10 : decode cX5_person 10 = .ok (.iload_n 2, 1) := by decide +kernel
theorem dX5_person_11 : decode cX5_person 11 = .ok (.tableswitch 92 0 5 #[37, 46, 57, 68, 78, 85], 37) := by decide +kernel
theorem dX5_person_48 : decode cX5_person 48 = .ok (.aload_n 0, 1) := by decide +kernel
theorem dX5_person_49 : decode cX5_person 49 = .ok (.getfield 19, 3) := by decide +kernel
theorem dX5_person_52 : decode cX5_person 52 = .ok (.iconst 3, 1) := by decide +kernel
theorem dX5_person_53 : decode cX5_person 53 = .ok (.iload_n 1, 1) := by decide +kernel
theorem dX5_person_54 : decode cX5_person 54 = .ok (.imul, 1) := by decide +kernel
theorem dX5_person_55 : decode cX5_person 55 = .ok (.iaload, 1) := by decide +kernel
theorem dX5_person_56 : decode cX5_person 56 = .ok (.ireturn, 1) := by decide +kernel
theorem dX5_person_57 : decode cX5_person 57 = .ok (.aload_n 0, 1) := by decide +kernel
theorem dX5_person_58 : decode cX5_person 58 = .ok (.getfield 19, 3) := by decide +kernel
theorem dX5_person_61 : decode cX5_person 61 = .ok (.iconst 3, 1) := by decide +kernel
theorem dX5_person_62 : decode cX5_person 62 = .ok (.iload_n 1, 1) := by decide +kernel
theorem dX5_person_63 : decode cX5_person 63 = .ok (.imul, 1) := by decide +kernel
theorem dX5_person_64 : decode cX5_person 64 = .ok (.iconst 1, 1) := by decide +kernel
theorem dX5_person_65 : decode cX5_person 65 = .ok (.iadd, 1) := by decide +kernel
theorem dX5_person_66 : decode cX5_person 66 = .ok (.iaload, 1) := by decide +kernel
theorem dX5_person_67 : decode cX5_person 67 = .ok (.ireturn, 1) := by decide +kernel
theorem dX5_person_68 : decode cX5_person 68 = .ok (.aload_n 0, 1) := by decide +kernel
theorem dX5_person_69 : decode cX5_person 69 = .ok (.getfield 19, 3) := by decide +kernel
theorem dX5_person_72 : decode cX5_person 72 = .ok (.iconst 3, 1) := by decide +kernel
theorem dX5_person_73 : decode cX5_person 73 = .ok (.iload_n 1, 1) := by decide +kernel
theorem dX5_person_74 : decode cX5_person 74 = .ok (.imul, 1) := by decide +kernel
theorem dX5_person_75 : decode cX5_person 75 = .ok (.iconst 2, 1) := by decide +kernel
theorem dX5_person_76 : decode cX5_person 76 = .ok (.iadd, 1) := by decide +kernel
theorem dX5_person_77 : decode cX5_person 77 = .ok (.iaload, 1) := by decide +kernel
theorem dX5_person_78 : decode cX5_person 78 = .ok (.ireturn, 1) := by decide +kernel
theorem dX5_person_79 : decode cX5_person 79 = .ok (.aload_n 0, 1) := by decide +kernel
theorem dX5_person_80 : decode cX5_person 80 = .ok (.getfield 22, 3) := by decide +kernel
theorem dX5_person_83 : decode cX5_person 83 = .ok (.iload_n 1, 1) := by decide +kernel
theorem dX5_person_84 : decode cX5_person 84 = .ok (.iaload, 1) := by decide +kernel
theorem dX5_person_85 : decode cX5_person 85 = .ok (.bipush 10, 2) := by decide +kernel
theorem dX5_person_87 : decode cX5_person 87 = .ok (.iadd, 1) := by decide +kernel
theorem dX5_person_88 : decode cX5_person 88 = .ok (.ireturn, 1) := by decide +kernel
theorem dX5_person_89 : decode cX5_person 89 = .ok (.aload_n 0, 1) := by decide +kernel
theorem dX5_person_90 : decode cX5_person 90 = .ok (.getfield 25, 3) := by decide +kernel
theorem dX5_person_93 : decode cX5_person 93 = .ok (.iload_n 1, 1) := by decide +kernel
theorem dX5_person_94 : decode cX5_person 94 = .ok (.iaload, 1) := by decide +kernel
theorem dX5_person_95 : decode cX5_person 95 = .ok (.ireturn, 1) := by decide +kernel
theorem dX5_person_96 : decode cX5_person 96 = .ok (.aload_n 0, 1) := by decide +kernel
theorem dX5_person_97 : decode cX5_person 97 = .ok (.getfield 28, 3) := by decide +kernel
theorem dX5_person_100 : decode cX5_person 100 = .ok (.iload_n 1, 1) := by decide +kernel
theorem dX5_person_101 : decode cX5_person 101 = .ok (.iaload, 1) := by decide +kernel
theorem dX5_person_102 : decode cX5_person 102 = .ok (.ireturn, 1) := by decide +kernel
theorem dX5_person_103 : decode cX5_person 103 = .ok (.bipush (-2), 2) := by decide +kernel
theorem dX5_person_105 : decode cX5_person 105 = .ok (.ireturn, 1) := by decide +kernel
theorem dX5_gain_0 : decode cX5_gain 0 = .ok (.aload_n 0, 1) := by decide +kernel
theorem dX5_gain_1 : decode cX5_gain 1 = .ok (.iload_n 1, 1) := by decide +kernel
theorem dX5_gain_2 : decode cX5_gain 2 = .ok (.invokevirtual 110, 3) := by decide +kernel
theorem dX5_gain_5 : decode cX5_gain 5 = .ok (.ifCond .ne 5, 3) := by decide +kernel
theorem dX5_gain_8 : decode cX5_gain 8 = .ok (.iconst (-1), 1) := by decide +kernel
theorem dX5_gain_9 : decode cX5_gain 9 = .ok (.ireturn, 1) := by decide +kernel
theorem dX5_gain_10 : decode cX5_gain 10 = .ok (.iload_n 2, 1) := by decide +kernel
theorem dX5_gain_11 : decode cX5_gain 11 = .ok (.i2l, 1) := by decide +kernel
theorem dX5_gain_12 : decode cX5_gain 12 = .ok (.ldc2_w 114, 3) := by decide +kernel
theorem dX5_gain_15 : decode cX5_gain 15 = .ok (.ldc2_w 116, 3) := by decide +kernel
theorem dX5_gain_18 : decode cX5_gain 18 = .ok (.invokestatic 70, 3) := by decide +kernel
theorem dX5_gain_21 : decode cX5_gain 21 = .ok (.ifCond .ne 6, 3) := by decide +kernel
theorem dX5_gain_24 : decode cX5_gain 24 = .ok (.bipush (-2), 2) := by decide +kernel
theorem dX5_gain_26 : decode cX5_gain 26 = .ok (.ireturn, 1) := by decide +kernel
theorem dX5_gain_27 : decode cX5_gain 27 = .ok (.aload_n 0, 1) := by decide +kernel
theorem dX5_gain_28 : decode cX5_gain 28 = .ok (.getfield 22, 3) := by decide +kernel
theorem dX5_gain_31 : decode cX5_gain 31 = .ok (.iload_n 1, 1) := by decide +kernel
theorem dX5_gain_32 : decode cX5_gain 32 = .ok (.iaload, 1) := by decide +kernel
theorem dX5_gain_33 : decode cX5_gain 33 = .ok (.bipush 10, 2) := by decide +kernel
theorem dX5_gain_35 : decode cX5_gain 35 = .ok (.iadd, 1) := by decide +kernel
theorem dX5_gain_36 : decode cX5_gain 36 = .ok (.istore_n 3, 1) := by decide +kernel
theorem dX5_gain_37 : decode cX5_gain 37 = .ok (.aload_n 0, 1) := by decide +kernel
theorem dX5_gain_38 : decode cX5_gain 38 = .ok (.getfield 22, 3) := by decide +kernel
theorem dX5_gain_41 : decode cX5_gain 41 = .ok (.iload_n 1, 1) := by decide +kernel
theorem dX5_gain_42 : decode cX5_gain 42 = .ok (.iload_n 2, 1) := by decide +kernel
theorem dX5_gain_43 : decode cX5_gain 43 = .ok (.iastore, 1) := by decide +kernel
theorem dX5_gain_44 : decode cX5_gain 44 = .ok (.iload_n 3, 1) := by decide +kernel
theorem dX5_gain_45 : decode cX5_gain 45 = .ok (.ireturn, 1) := by decide +kernel
theorem dX5_minutes_0 : decode cX5_minutes 0 = .ok (.iload_n 1, 1) := by decide +kernel
theorem dX5_minutes_1 : decode cX5_minutes 1 = .ok (.i2l, 1) := by decide +kernel
theorem dX5_minutes_2 : decode cX5_minutes 2 = .ok (.lconst 0, 1) := by decide +kernel
theorem dX5_minutes_3 : decode cX5_minutes 3 = .ok (.ldc2_w 86, 3) := by decide +kernel
theorem dX5_minutes_6 : decode cX5_minutes 6 = .ok (.invokestatic 70, 3) := by decide +kernel
theorem dX5_minutes_9 : decode cX5_minutes 9 = .ok (.ifCond .ne 6, 3) := by decide +kernel
theorem dX5_minutes_12 : decode cX5_minutes 12 = .ok (.bipush (-2), 2) := by decide +kernel
theorem dX5_minutes_14 : decode cX5_minutes 14 = .ok (.ireturn, 1) := by decide +kernel
theorem dX5_minutes_15 : decode cX5_minutes 15 = .ok (.aload_n 0, 1) := by decide +kernel
theorem dX5_minutes_16 : decode cX5_minutes 16 = .ok (.getfield 102, 3) := by decide +kernel
theorem dX5_minutes_19 : decode cX5_minutes 19 = .ok (.istore_n 2, 1) := by decide +kernel
theorem dX5_minutes_20 : decode cX5_minutes 20 = .ok (.aload_n 0, 1) := by decide +kernel
theorem dX5_minutes_21 : decode cX5_minutes 21 = .ok (.iload_n 1, 1) := by decide +kernel
theorem dX5_minutes_22 : decode cX5_minutes 22 = .ok (.putfield 102, 3) := by decide +kernel
theorem dX5_minutes_25 : decode cX5_minutes 25 = .ok (.iload_n 2, 1) := by decide +kernel
theorem dX5_minutes_26 : decode cX5_minutes 26 = .ok (.ireturn, 1) := by decide +kernel
theorem dX5_weightOf_0 : decode cX5_weightOf 0 = .ok (.iload_n 3, 1) := by decide +kernel
theorem dX5_weightOf_1 : decode cX5_weightOf 1 = .ok (.ifCond .eq 12, 3) := by decide +kernel
theorem dX5_weightOf_4 : decode cX5_weightOf 4 = .ok (.aload_n 0, 1) := by decide +kernel
theorem dX5_weightOf_5 : decode cX5_weightOf 5 = .ok (.getfield 25, 3) := by decide +kernel
theorem dX5_weightOf_8 : decode cX5_weightOf 8 = .ok (.iload_n 1, 1) := by decide +kernel
theorem dX5_weightOf_9 : decode cX5_weightOf 9 = .ok (.iaload, 1) := by decide +kernel
theorem dX5_weightOf_10 : decode cX5_weightOf 10 = .ok (.goto 11, 3) := by decide +kernel
theorem dX5_weightOf_13 : decode cX5_weightOf 13 = .ok (.aload_n 0, 1) := by decide +kernel
theorem dX5_weightOf_14 : decode cX5_weightOf 14 = .ok (.getfield 19, 3) := by decide +kernel
theorem dX5_weightOf_17 : decode cX5_weightOf 17 = .ok (.iconst 3, 1) := by decide +kernel
theorem dX5_weightOf_18 : decode cX5_weightOf 18 = .ok (.iload_n 1, 1) := by decide +kernel
theorem dX5_weightOf_19 : decode cX5_weightOf 19 = .ok (.imul, 1) := by decide +kernel
theorem dX5_weightOf_20 : decode cX5_weightOf 20 = .ok (.iaload, 1) := by decide +kernel
theorem dX5_weightOf_21 : decode cX5_weightOf 21 = .ok (.iload_n 2, 1) := by decide +kernel
theorem dX5_weightOf_22 : decode cX5_weightOf 22 = .ok (.aload_n 0, 1) := by decide +kernel
theorem dX5_weightOf_23 : decode cX5_weightOf 23 = .ok (.getfield 22, 3) := by decide +kernel
theorem dX5_weightOf_26 : decode cX5_weightOf 26 = .ok (.iload_n 1, 1) := by decide +kernel
theorem dX5_weightOf_27 : decode cX5_weightOf 27 = .ok (.iaload, 1) := by decide +kernel
theorem dX5_weightOf_28 : decode cX5_weightOf 28 = .ok (.imul, 1) := by decide +kernel
theorem dX5_weightOf_29 : decode cX5_weightOf 29 = .ok (.iadd, 1) := by decide +kernel
theorem dX5_weightOf_30 : decode cX5_weightOf 30 = .ok (.istore 4, 2) := by decide +kernel
theorem dX5_weightOf_32 : decode cX5_weightOf 32 = .ok (.iload 4, 2) := by decide +kernel
theorem dX5_weightOf_34 : decode cX5_weightOf 34 = .ok (.ifCond .ge 7, 3) := by decide +kernel
theorem dX5_weightOf_37 : decode cX5_weightOf 37 = .ok (.iconst 0, 1) := by decide +kernel
theorem dX5_weightOf_38 : decode cX5_weightOf 38 = .ok (.goto 5, 3) := by decide +kernel
theorem dX5_weightOf_41 : decode cX5_weightOf 41 = .ok (.iload 4, 2) := by decide +kernel
theorem dX5_weightOf_43 : decode cX5_weightOf 43 = .ok (.ireturn, 1) := by decide +kernel
theorem dX5_willSit_0 : decode cX5_willSit 0 = .ok (.aload_n 0, 1) := by decide +kernel
theorem dX5_willSit_1 : decode cX5_willSit 1 = .ok (.getfield 19, 3) := by decide +kernel
theorem dX5_willSit_4 : decode cX5_willSit 4 = .ok (.iconst 3, 1) := by decide +kernel
theorem dX5_willSit_5 : decode cX5_willSit 5 = .ok (.iload_n 1, 1) := by decide +kernel
theorem dX5_willSit_6 : decode cX5_willSit 6 = .ok (.imul, 1) := by decide +kernel
theorem dX5_willSit_7 : decode cX5_willSit 7 = .ok (.iconst 2, 1) := by decide +kernel
theorem dX5_willSit_8 : decode cX5_willSit 8 = .ok (.iadd, 1) := by decide +kernel
theorem dX5_willSit_9 : decode cX5_willSit 9 = .ok (.iaload, 1) := by decide +kernel
theorem dX5_willSit_10 : decode cX5_willSit 10 = .ok (.iconst 3, 1) := by decide +kernel
theorem dX5_willSit_11 : decode cX5_willSit 11 = .ok (.if_icmp .eq 17, 3) := by decide +kernel
theorem dX5_willSit_14 : decode cX5_willSit 14 = .ok (.aload_n 0, 1) := by decide +kernel
theorem dX5_willSit_15 : decode cX5_willSit 15 = .ok (.getfield 19, 3) := by decide +kernel
theorem dX5_willSit_18 : decode cX5_willSit 18 = .ok (.iconst 3, 1) := by decide +kernel
theorem dX5_willSit_19 : decode cX5_willSit 19 = .ok (.iload_n 1, 1) := by decide +kernel
theorem dX5_willSit_20 : decode cX5_willSit 20 = .ok (.imul, 1) := by decide +kernel
theorem dX5_willSit_21 : decode cX5_willSit 21 = .ok (.iconst 2, 1) := by decide +kernel
theorem dX5_willSit_22 : decode cX5_willSit 22 = .ok (.iadd, 1) := by decide +kernel
theorem dX5_willSit_23 : decode cX5_willSit 23 = .ok (.iaload, 1) := by decide +kernel
theorem dX5_willSit_24 : decode cX5_willSit 24 = .ok (.iload_n 2, 1) := by decide +kernel
theorem dX5_willSit_25 : decode cX5_willSit 25 = .ok (.if_icmp .ne 7, 3) := by decide +kernel
theorem dX5_willSit_28 : decode cX5_willSit 28 = .ok (.iconst 1, 1) := by decide +kernel
theorem dX5_willSit_29 : decode cX5_willSit 29 = .ok (.goto 4, 3) := by decide +kernel
theorem dX5_willSit_32 : decode cX5_willSit 32 = .ok (.iconst 0, 1) := by decide +kernel
theorem dX5_willSit_33 : decode cX5_willSit 33 = .ok (.ireturn, 1) := by decide +kernel
theorem dX5_whoAt_0 : decode cX5_whoAt 0 = .ok (.iconst 0, 1) := by decide +kernel
theorem dX5_whoAt_1 : decode cX5_whoAt 1 = .ok (.istore_n 2, 1) := by decide +kernel
theorem dX5_whoAt_2 : decode cX5_whoAt 2 = .ok (.iconst 0, 1) := by decide +kernel
theorem dX5_whoAt_3 : decode cX5_whoAt 3 = .ok (.istore_n 3, 1) := by decide +kernel
theorem dX5_whoAt_4 : decode cX5_whoAt 4 = .ok (.iload_n 3, 1) := by decide +kernel
theorem dX5_whoAt_5 : decode cX5_whoAt 5 = .ok (.aload_n 0, 1) := by decide +kernel
theorem dX5_whoAt_6 : decode cX5_whoAt 6 = .ok (.getfield 99, 3) := by decide +kernel
theorem dX5_whoAt_9 : decode cX5_whoAt 9 = .ok (.if_icmp .ge 29, 3) := by decide +kernel
theorem dX5_whoAt_12 : decode cX5_whoAt 12 = .ok (.iload_n 2, 1) := by decide +kernel
theorem dX5_whoAt_13 : decode cX5_whoAt 13 = .ok (.aload_n 0, 1) := by decide +kernel
theorem dX5_whoAt_14 : decode cX5_whoAt 14 = .ok (.getfield 28, 3) := by decide +kernel
theorem dX5_whoAt_17 : decode cX5_whoAt 17 = .ok (.iload_n 3, 1) := by decide +kernel
theorem dX5_whoAt_18 : decode cX5_whoAt 18 = .ok (.iaload, 1) := by decide +kernel
theorem dX5_whoAt_19 : decode cX5_whoAt 19 = .ok (.iload_n 1, 1) := by decide +kernel
theorem dX5_whoAt_20 : decode cX5_whoAt 20 = .ok (.if_icmp .ne 9, 3) := by decide +kernel
theorem dX5_whoAt_23 : decode cX5_whoAt 23 = .ok (.iconst 1, 1) := by decide +kernel
theorem dX5_whoAt_24 : decode cX5_whoAt 24 = .ok (.iload_n 3, 1) := by decide +kernel
theorem dX5_whoAt_25 : decode cX5_whoAt 25 = .ok (.ishl, 1) := by decide +kernel
theorem dX5_whoAt_26 : decode cX5_whoAt 26 = .ok (.goto 4, 3) := by decide +kernel
theorem dX5_whoAt_29 : decode cX5_whoAt 29 = .ok (.iconst 0, 1) := by decide +kernel
theorem dX5_whoAt_30 : decode cX5_whoAt 30 = .ok (.ior, 1) := by decide +kernel
theorem dX5_whoAt_31 : decode cX5_whoAt 31 = .ok (.istore_n 2, 1) := by decide +kernel
theorem dX5_whoAt_32 : decode cX5_whoAt 32 = .ok (.iinc 3 1, 3) := by decide +kernel
theorem dX5_whoAt_35 : decode cX5_whoAt 35 = .ok (.goto (-31), 3) := by decide +kernel
theorem dX5_whoAt_38 : decode cX5_whoAt 38 = .ok (.iload_n 2, 1) := by decide +kernel
theorem dX5_whoAt_39 : decode cX5_whoAt 39 = .ok (.ireturn, 1) := by decide +kernel
theorem dX5_ones_0 : decode cX5_ones 0 = .ok (.iconst 0, 1) := by decide +kernel
theorem dX5_ones_1 : decode cX5_ones 1 = .ok (.istore_n 1, 1) := by decide +kernel
theorem dX5_ones_2 : decode cX5_ones 2 = .ok (.iconst 0, 1) := by decide +kernel
theorem dX5_ones_3 : decode cX5_ones 3 = .ok (.istore_n 2, 1) := by decide +kernel
theorem dX5_ones_4 : decode cX5_ones 4 = .ok (.iload_n 2, 1) := by decide +kernel
theorem dX5_ones_5 : decode cX5_ones 5 = .ok (.bipush 8, 2) := by decide +kernel
theorem dX5_ones_7 : decode cX5_ones 7 = .ok (.if_icmp .ge 17, 3) := by decide +kernel
theorem dX5_ones_10 : decode cX5_ones 10 = .ok (.iload_n 1, 1) := by decide +kernel
theorem dX5_ones_11 : decode cX5_ones 11 = .ok (.iload_n 0, 1) := by decide +kernel
theorem dX5_ones_12 : decode cX5_ones 12 = .ok (.iload_n 2, 1) := by decide +kernel
theorem dX5_ones_13 : decode cX5_ones 13 = .ok (.ishr, 1) := by decide +kernel
theorem dX5_ones_14 : decode cX5_ones 14 = .ok (.iconst 1, 1) := by decide +kernel
theorem dX5_ones_15 : decode cX5_ones 15 = .ok (.iand, 1) := by decide +kernel
theorem dX5_ones_16 : decode cX5_ones 16 = .ok (.iadd, 1) := by decide +kernel
theorem dX5_ones_17 : decode cX5_ones 17 = .ok (.istore_n 1, 1) := by decide +kernel
theorem dX5_ones_18 : decode cX5_ones 18 = .ok (.iinc 2 1, 3) := by decide +kernel
theorem dX5_ones_21 : decode cX5_ones 21 = .ok (.goto (-17), 3) := by decide +kernel
theorem dX5_ones_24 : decode cX5_ones 24 = .ok (.iload_n 1, 1) := by decide +kernel
theorem dX5_ones_25 : decode cX5_ones 25 = .ok (.ireturn, 1) := by decide +kernel
theorem dX5_lay_0 : decode cX5_lay 0 = .ok (.aload_n 0, 1) := by decide +kernel
theorem dX5_lay_1 : decode cX5_lay 1 = .ok (.iload_n 1, 1) := by decide +kernel
theorem dX5_lay_2 : decode cX5_lay 2 = .ok (.invokevirtual 110, 3) := by decide +kernel
theorem dX5_lay_5 : decode cX5_lay 5 = .ok (.ifCond .eq 11, 3) := by decide +kernel
theorem dX5_lay_8 : decode cX5_lay 8 = .ok (.aload_n 0, 1) := by decide +kernel
theorem dX5_lay_9 : decode cX5_lay 9 = .ok (.iload_n 2, 1) := by decide +kernel
theorem dX5_lay_10 : decode cX5_lay 10 = .ok (.invokevirtual 118, 3) := by decide +kernel
theorem dX5_lay_13 : decode cX5_lay 13 = .ok (.ifCond .ne 5, 3) := by decide +kernel
theorem dX5_lay_16 : decode cX5_lay 16 = .ok (.iconst (-1), 1) := by decide +kernel
theorem dX5_lay_17 : decode cX5_lay 17 = .ok (.ireturn, 1) := by decide +kernel
theorem dX5_lay_18 : decode cX5_lay 18 = .ok (.aload_n 0, 1) := by decide +kernel
theorem dX5_lay_19 : decode cX5_lay 19 = .ok (.getfield 28, 3) := by decide +kernel
theorem dX5_lay_22 : decode cX5_lay 22 = .ok (.iload_n 1, 1) := by decide +kernel
theorem dX5_lay_23 : decode cX5_lay 23 = .ok (.iaload, 1) := by decide +kernel
theorem dX5_lay_24 : decode cX5_lay 24 = .ok (.bipush 10, 2) := by decide +kernel
theorem dX5_lay_26 : decode cX5_lay 26 = .ok (.if_icmp .ne 12, 3) := by decide +kernel
theorem dX5_lay_29 : decode cX5_lay 29 = .ok (.aload_n 0, 1) := by decide +kernel
theorem dX5_lay_30 : decode cX5_lay 30 = .ok (.iload_n 1, 1) := by decide +kernel
theorem dX5_lay_31 : decode cX5_lay 31 = .ok (.iload_n 2, 1) := by decide +kernel
theorem dX5_lay_32 : decode cX5_lay 32 = .ok (.invokevirtual 121, 3) := by decide +kernel
theorem dX5_lay_35 : decode cX5_lay 35 = .ok (.ifCond .ne 6, 3) := by decide +kernel
theorem dX5_lay_38 : decode cX5_lay 38 = .ok (.bipush (-3), 2) := by decide +kernel
theorem dX5_lay_40 : decode cX5_lay 40 = .ok (.ireturn, 1) := by decide +kernel
theorem dX5_lay_41 : decode cX5_lay 41 = .ok (.aload_n 0, 1) := by decide +kernel
theorem dX5_lay_42 : decode cX5_lay 42 = .ok (.iload_n 2, 1) := by decide +kernel
theorem dX5_lay_43 : decode cX5_lay 43 = .ok (.invokevirtual 125, 3) := by decide +kernel
theorem dX5_lay_46 : decode cX5_lay 46 = .ok (.invokestatic 128, 3) := by decide +kernel
theorem dX5_lay_49 : decode cX5_lay 49 = .ok (.istore_n 3, 1) := by decide +kernel
theorem dX5_lay_50 : decode cX5_lay 50 = .ok (.iload_n 3, 1) := by decide +kernel
theorem dX5_lay_51 : decode cX5_lay 51 = .ok (.aload_n 0, 1) := by decide +kernel
theorem dX5_lay_52 : decode cX5_lay 52 = .ok (.getfield 16, 3) := by decide +kernel
theorem dX5_lay_55 : decode cX5_lay 55 = .ok (.iconst 3, 1) := by decide +kernel
theorem dX5_lay_56 : decode cX5_lay 56 = .ok (.iaload, 1) := by decide +kernel
theorem dX5_lay_57 : decode cX5_lay 57 = .ok (.if_icmp .lt 6, 3) := by decide +kernel
theorem dX5_lay_60 : decode cX5_lay 60 = .ok (.bipush (-4), 2) := by decide +kernel
theorem dX5_lay_62 : decode cX5_lay 62 = .ok (.ireturn, 1) := by decide +kernel
theorem dX5_lay_63 : decode cX5_lay 63 = .ok (.aload_n 0, 1) := by decide +kernel
theorem dX5_lay_64 : decode cX5_lay 64 = .ok (.getfield 28, 3) := by decide +kernel
theorem dX5_lay_67 : decode cX5_lay 67 = .ok (.iload_n 1, 1) := by decide +kernel
theorem dX5_lay_68 : decode cX5_lay 68 = .ok (.iload_n 2, 1) := by decide +kernel
theorem dX5_lay_69 : decode cX5_lay 69 = .ok (.iastore, 1) := by decide +kernel
theorem dX5_lay_70 : decode cX5_lay 70 = .ok (.iload_n 3, 1) := by decide +kernel
theorem dX5_lay_71 : decode cX5_lay 71 = .ok (.iconst 1, 1) := by decide +kernel
theorem dX5_lay_72 : decode cX5_lay 72 = .ok (.iadd, 1) := by decide +kernel
theorem dX5_lay_73 : decode cX5_lay 73 = .ok (.ireturn, 1) := by decide +kernel
theorem dX5_laid_0 : decode cX5_laid 0 = .ok (.aload_n 0, 1) := by decide +kernel
theorem dX5_laid_1 : decode cX5_laid 1 = .ok (.iconst 0, 1) := by decide +kernel
theorem dX5_laid_2 : decode cX5_laid 2 = .ok (.invokevirtual 125, 3) := by decide +kernel
theorem dX5_laid_5 : decode cX5_laid 5 = .ok (.aload_n 0, 1) := by decide +kernel
theorem dX5_laid_6 : decode cX5_laid 6 = .ok (.iconst 1, 1) := by decide +kernel
theorem dX5_laid_7 : decode cX5_laid 7 = .ok (.invokevirtual 125, 3) := by decide +kernel
theorem dX5_laid_10 : decode cX5_laid 10 = .ok (.ior, 1) := by decide +kernel
theorem dX5_laid_11 : decode cX5_laid 11 = .ok (.aload_n 0, 1) := by decide +kernel
theorem dX5_laid_12 : decode cX5_laid 12 = .ok (.iconst 2, 1) := by decide +kernel
theorem dX5_laid_13 : decode cX5_laid 13 = .ok (.invokevirtual 125, 3) := by decide +kernel
theorem dX5_laid_16 : decode cX5_laid 16 = .ok (.ior, 1) := by decide +kernel
theorem dX5_laid_17 : decode cX5_laid 17 = .ok (.invokestatic 128, 3) := by decide +kernel
theorem dX5_laid_20 : decode cX5_laid 20 = .ok (.ireturn, 1) := by decide +kernel
theorem dX5_unlay_0 : decode cX5_unlay 0 = .ok (.aload_n 0, 1) := by decide +kernel
theorem dX5_unlay_1 : decode cX5_unlay 1 = .ok (.iload_n 1, 1) := by decide +kernel
theorem dX5_unlay_2 : decode cX5_unlay 2 = .ok (.invokevirtual 110, 3) := by decide +kernel
theorem dX5_unlay_5 : decode cX5_unlay 5 = .ok (.ifCond .ne 5, 3) := by decide +kernel
theorem dX5_unlay_8 : decode cX5_unlay 8 = .ok (.iconst (-1), 1) := by decide +kernel
theorem dX5_unlay_9 : decode cX5_unlay 9 = .ok (.ireturn, 1) := by decide +kernel
theorem dX5_unlay_10 : decode cX5_unlay 10 = .ok (.aload_n 0, 1) := by decide +kernel
theorem dX5_unlay_11 : decode cX5_unlay 11 = .ok (.getfield 28, 3) := by decide +kernel
theorem dX5_unlay_14 : decode cX5_unlay 14 = .ok (.iload_n 1, 1) := by decide +kernel
theorem dX5_unlay_15 : decode cX5_unlay 15 = .ok (.iaload, 1) := by decide +kernel
theorem dX5_unlay_16 : decode cX5_unlay 16 = .ok (.bipush 10, 2) := by decide +kernel
theorem dX5_unlay_18 : decode cX5_unlay 18 = .ok (.if_icmp .lt 6, 3) := by decide +kernel
theorem dX5_unlay_21 : decode cX5_unlay 21 = .ok (.bipush (-3), 2) := by decide +kernel
theorem dX5_unlay_23 : decode cX5_unlay 23 = .ok (.ireturn, 1) := by decide +kernel
theorem dX5_unlay_24 : decode cX5_unlay 24 = .ok (.aload_n 0, 1) := by decide +kernel
theorem dX5_unlay_25 : decode cX5_unlay 25 = .ok (.getfield 28, 3) := by decide +kernel
theorem dX5_unlay_28 : decode cX5_unlay 28 = .ok (.iload_n 1, 1) := by decide +kernel
theorem dX5_unlay_29 : decode cX5_unlay 29 = .ok (.bipush 10, 2) := by decide +kernel
theorem dX5_unlay_31 : decode cX5_unlay 31 = .ok (.iastore, 1) := by decide +kernel
theorem dX5_unlay_32 : decode cX5_unlay 32 = .ok (.aload_n 0, 1) := by decide +kernel
theorem dX5_unlay_33 : decode cX5_unlay 33 = .ok (.invokevirtual 131, 3) := by decide +kernel
theorem dX5_unlay_36 : decode cX5_unlay 36 = .ok (.ireturn, 1) := by decide +kernel
theorem dX5_heavy_0 : decode cX5_heavy 0 = .ok (.iload_n 2, 1) := by decide +kernel
theorem dX5_heavy_1 : decode cX5_heavy 1 = .ok (.ifCond .ne 12, 3) := by decide +kernel
theorem dX5_heavy_4 : decode cX5_heavy 4 = .ok (.aload_n 0, 1) := by decide +kernel
theorem dX5_heavy_5 : decode cX5_heavy 5 = .ok (.getfield 16, 3) := by decide +kernel
theorem dX5_heavy_8 : decode cX5_heavy 8 = .ok (.iconst 4, 1) := by decide +kernel
theorem dX5_heavy_9 : decode cX5_heavy 9 = .ok (.iaload, 1) := by decide +kernel
theorem dX5_heavy_10 : decode cX5_heavy 10 = .ok (.goto 4, 3) := by decide +kernel
theorem dX5_heavy_13 : decode cX5_heavy 13 = .ok (.iconst 0, 1) := by decide +kernel
theorem dX5_heavy_14 : decode cX5_heavy 14 = .ok (.istore 5, 2) := by decide +kernel
theorem dX5_heavy_16 : decode cX5_heavy 16 = .ok (.iconst 0, 1) := by decide +kernel
theorem dX5_heavy_17 : decode cX5_heavy 17 = .ok (.istore 6, 2) := by decide +kernel
theorem dX5_heavy_19 : decode cX5_heavy 19 = .ok (.iload 6, 2) := by decide +kernel
theorem dX5_heavy_21 : decode cX5_heavy 21 = .ok (.aload_n 0, 1) := by decide +kernel
theorem dX5_heavy_22 : decode cX5_heavy 22 = .ok (.getfield 99, 3) := by decide +kernel
theorem dX5_heavy_25 : decode cX5_heavy 25 = .ok (.if_icmp .ge 37, 3) := by decide +kernel
theorem dX5_heavy_28 : decode cX5_heavy 28 = .ok (.iload 5, 2) := by decide +kernel
theorem dX5_heavy_30 : decode cX5_heavy 30 = .ok (.iload_n 1, 1) := by decide +kernel
theorem dX5_heavy_31 : decode cX5_heavy 31 = .ok (.iload 6, 2) := by decide +kernel
theorem dX5_heavy_33 : decode cX5_heavy 33 = .ok (.ishr, 1) := by decide +kernel
theorem dX5_heavy_34 : decode cX5_heavy 34 = .ok (.iconst 1, 1) := by decide +kernel
theorem dX5_heavy_35 : decode cX5_heavy 35 = .ok (.iand, 1) := by decide +kernel
theorem dX5_heavy_36 : decode cX5_heavy 36 = .ok (.iconst 1, 1) := by decide +kernel
theorem dX5_heavy_37 : decode cX5_heavy 37 = .ok (.if_icmp .ne 15, 3) := by decide +kernel
theorem dX5_heavy_40 : decode cX5_heavy 40 = .ok (.aload_n 0, 1) := by decide +kernel
theorem dX5_heavy_41 : decode cX5_heavy 41 = .ok (.iload 6, 2) := by decide +kernel
theorem dX5_heavy_43 : decode cX5_heavy 43 = .ok (.iload_n 3, 1) := by decide +kernel
theorem dX5_heavy_44 : decode cX5_heavy 44 = .ok (.iload 4, 2) := by decide +kernel
theorem dX5_heavy_46 : decode cX5_heavy 46 = .ok (.invokevirtual 134, 3) := by decide +kernel
theorem dX5_heavy_49 : decode cX5_heavy 49 = .ok (.goto 4, 3) := by decide +kernel
theorem dX5_heavy_52 : decode cX5_heavy 52 = .ok (.iconst 0, 1) := by decide +kernel
theorem dX5_heavy_53 : decode cX5_heavy 53 = .ok (.iadd, 1) := by decide +kernel
theorem dX5_heavy_54 : decode cX5_heavy 54 = .ok (.istore 5, 2) := by decide +kernel
theorem dX5_heavy_56 : decode cX5_heavy 56 = .ok (.iinc 6 1, 3) := by decide +kernel
theorem dX5_heavy_59 : decode cX5_heavy 59 = .ok (.goto (-40), 3) := by decide +kernel
theorem dX5_heavy_62 : decode cX5_heavy 62 = .ok (.iload 5, 2) := by decide +kernel
theorem dX5_heavy_64 : decode cX5_heavy 64 = .ok (.ireturn, 1) := by decide +kernel
theorem dX5_offOf_0 : decode cX5_offOf 0 = .ok (.aload_n 0, 1) := by decide +kernel
theorem dX5_offOf_1 : decode cX5_offOf 1 = .ok (.getfield 16, 3) := by decide +kernel
theorem dX5_offOf_4 : decode cX5_offOf 4 = .ok (.iconst 0, 1) := by decide +kernel
theorem dX5_offOf_5 : decode cX5_offOf 5 = .ok (.iaload, 1) := by decide +kernel
theorem dX5_offOf_6 : decode cX5_offOf 6 = .ok (.iconst 2, 1) := by decide +kernel
theorem dX5_offOf_7 : decode cX5_offOf 7 = .ok (.if_icmp .ne 21, 3) := by decide +kernel
theorem dX5_offOf_10 : decode cX5_offOf 10 = .ok (.aload_n 0, 1) := by decide +kernel
theorem dX5_offOf_11 : decode cX5_offOf 11 = .ok (.getfield 16, 3) := by decide +kernel
theorem dX5_offOf_14 : decode cX5_offOf 14 = .ok (.iconst 1, 1) := by decide +kernel
theorem dX5_offOf_15 : decode cX5_offOf 15 = .ok (.iaload, 1) := by decide +kernel
theorem dX5_offOf_16 : decode cX5_offOf 16 = .ok (.iload_n 1, 1) := by decide +kernel
theorem dX5_offOf_17 : decode cX5_offOf 17 = .ok (.imul, 1) := by decide +kernel
theorem dX5_offOf_18 : decode cX5_offOf 18 = .ok (.aload_n 0, 1) := by decide +kernel
theorem dX5_offOf_19 : decode cX5_offOf 19 = .ok (.getfield 16, 3) := by decide +kernel
theorem dX5_offOf_22 : decode cX5_offOf 22 = .ok (.iconst 2, 1) := by decide +kernel
theorem dX5_offOf_23 : decode cX5_offOf 23 = .ok (.iaload, 1) := by decide +kernel
theorem dX5_offOf_24 : decode cX5_offOf 24 = .ok (.iload_n 2, 1) := by decide +kernel
theorem dX5_offOf_25 : decode cX5_offOf 25 = .ok (.imul, 1) := by decide +kernel
theorem dX5_offOf_26 : decode cX5_offOf 26 = .ok (.isub, 1) := by decide +kernel
theorem dX5_offOf_27 : decode cX5_offOf 27 = .ok (.ireturn, 1) := by decide +kernel
theorem dX5_offOf_28 : decode cX5_offOf 28 = .ok (.iload_n 1, 1) := by decide +kernel
theorem dX5_offOf_29 : decode cX5_offOf 29 = .ok (.iload_n 2, 1) := by decide +kernel
theorem dX5_offOf_30 : decode cX5_offOf 30 = .ok (.if_icmp .le 7, 3) := by decide +kernel
theorem dX5_offOf_33 : decode cX5_offOf 33 = .ok (.iload_n 1, 1) := by decide +kernel
theorem dX5_offOf_34 : decode cX5_offOf 34 = .ok (.goto 4, 3) := by decide +kernel
theorem dX5_offOf_37 : decode cX5_offOf 37 = .ok (.iload_n 2, 1) := by decide +kernel
theorem dX5_offOf_38 : decode cX5_offOf 38 = .ok (.istore 4, 2) := by decide +kernel
theorem dX5_offOf_40 : decode cX5_offOf 40 = .ok (.iload_n 1, 1) := by decide +kernel
theorem dX5_offOf_41 : decode cX5_offOf 41 = .ok (.iload_n 2, 1) := by decide +kernel
theorem dX5_offOf_42 : decode cX5_offOf 42 = .ok (.if_icmp .ge 7, 3) := by decide +kernel
theorem dX5_offOf_45 : decode cX5_offOf 45 = .ok (.iload_n 1, 1) := by decide +kernel
theorem dX5_offOf_46 : decode cX5_offOf 46 = .ok (.goto 4, 3) := by decide +kernel
theorem dX5_offOf_49 : decode cX5_offOf 49 = .ok (.iload_n 2, 1) := by decide +kernel
theorem dX5_offOf_50 : decode cX5_offOf 50 = .ok (.istore 5, 2) := by decide +kernel
theorem dX5_offOf_52 : decode cX5_offOf 52 = .ok (.iload_n 3, 1) := by decide +kernel
theorem dX5_offOf_53 : decode cX5_offOf 53 = .ok (.iload 4, 2) := by decide +kernel
theorem dX5_offOf_55 : decode cX5_offOf 55 = .ok (.if_icmp .le 7, 3) := by decide +kernel
theorem dX5_offOf_58 : decode cX5_offOf 58 = .ok (.iload_n 3, 1) := by decide +kernel
theorem dX5_offOf_59 : decode cX5_offOf 59 = .ok (.goto 5, 3) := by decide +kernel
theorem dX5_offOf_62 : decode cX5_offOf 62 = .ok (.iload 4, 2) := by decide +kernel
theorem dX5_offOf_64 : decode cX5_offOf 64 = .ok (.istore 4, 2) := by decide +kernel
theorem dX5_offOf_66 : decode cX5_offOf 66 = .ok (.iload_n 3, 1) := by decide +kernel
theorem dX5_offOf_67 : decode cX5_offOf 67 = .ok (.iload 5, 2) := by decide +kernel
theorem dX5_offOf_69 : decode cX5_offOf 69 = .ok (.if_icmp .ge 7, 3) := by decide +kernel
theorem dX5_offOf_72 : decode cX5_offOf 72 = .ok (.iload_n 3, 1) := by decide +kernel
theorem dX5_offOf_73 : decode cX5_offOf 73 = .ok (.goto 5, 3) := by decide +kernel
theorem dX5_offOf_76 : decode cX5_offOf 76 = .ok (.iload 5, 2) := by decide +kernel
theorem dX5_offOf_78 : decode cX5_offOf 78 = .ok (.istore 5, 2) := by decide +kernel
theorem dX5_offOf_80 : decode cX5_offOf 80 = .ok (.iload 4, 2) := by decide +kernel
theorem dX5_offOf_82 : decode cX5_offOf 82 = .ok (.iload 5, 2) := by decide +kernel
theorem dX5_offOf_84 : decode cX5_offOf 84 = .ok (.isub, 1) := by decide +kernel
theorem dX5_offOf_85 : decode cX5_offOf 85 = .ok (.ireturn, 1) := by decide +kernel
theorem dX5_isEven_0 : decode cX5_isEven 0 = .ok (.aload_n 0, 1) := by decide +kernel
theorem dX5_isEven_1 : decode cX5_isEven 1 = .ok (.aload_n 0, 1) := by decide +kernel
theorem dX5_isEven_2 : decode cX5_isEven 2 = .ok (.iload_n 1, 1) := by decide +kernel
theorem dX5_isEven_3 : decode cX5_isEven 3 = .ok (.iconst 0, 1) := by decide +kernel
theorem dX5_isEven_4 : decode cX5_isEven 4 = .ok (.iload 4, 2) := by decide +kernel
theorem dX5_isEven_6 : decode cX5_isEven 6 = .ok (.iload 5, 2) := by decide +kernel
theorem dX5_isEven_8 : decode cX5_isEven 8 = .ok (.invokevirtual 138, 3) := by decide +kernel
theorem dX5_isEven_11 : decode cX5_isEven 11 = .ok (.aload_n 0, 1) := by decide +kernel
theorem dX5_isEven_12 : decode cX5_isEven 12 = .ok (.iload_n 2, 1) := by decide +kernel
theorem dX5_isEven_13 : decode cX5_isEven 13 = .ok (.iconst 1, 1) := by decide +kernel
theorem dX5_isEven_14 : decode cX5_isEven 14 = .ok (.iload 4, 2) := by decide +kernel
theorem dX5_isEven_16 : decode cX5_isEven 16 = .ok (.iload 5, 2) := by decide +kernel
theorem dX5_isEven_18 : decode cX5_isEven 18 = .ok (.invokevirtual 138, 3) := by decide +kernel
theorem dX5_isEven_21 : decode cX5_isEven 21 = .ok (.aload_n 0, 1) := by decide +kernel
theorem dX5_isEven_22 : decode cX5_isEven 22 = .ok (.iload_n 3, 1) := by decide +kernel
theorem dX5_isEven_23 : decode cX5_isEven 23 = .ok (.iconst 2, 1) := by decide +kernel
theorem dX5_isEven_24 : decode cX5_isEven 24 = .ok (.iload 4, 2) := by decide +kernel
theorem dX5_isEven_26 : decode cX5_isEven 26 = .ok (.iload 5, 2) := by decide +kernel
theorem dX5_isEven_28 : decode cX5_isEven 28 = .ok (.invokevirtual 138, 3) := by decide +kernel
theorem dX5_isEven_31 : decode cX5_isEven 31 = .ok (.invokevirtual 142, 3) := by decide +kernel
theorem dX5_isEven_34 : decode cX5_isEven 34 = .ok (.ifCond .ne 7, 3) := by decide +kernel
theorem dX5_isEven_37 : decode cX5_isEven 37 = .ok (.iconst 1, 1) := by decide +kernel
theorem dX5_isEven_38 : decode cX5_isEven 38 = .ok (.goto 4, 3) := by decide +kernel
theorem dX5_isEven_41 : decode cX5_isEven 41 = .ok (.iconst 0, 1) := by decide +kernel
theorem dX5_isEven_42 : decode cX5_isEven 42 = .ok (.ireturn, 1) := by decide +kernel
theorem dX5_isLevel_0 : decode cX5_isLevel 0 = .ok (.aload_n 0, 1) := by decide +kernel
theorem dX5_isLevel_1 : decode cX5_isLevel 1 = .ok (.iload_n 1, 1) := by decide +kernel
theorem dX5_isLevel_2 : decode cX5_isLevel 2 = .ok (.iload_n 2, 1) := by decide +kernel
theorem dX5_isLevel_3 : decode cX5_isLevel 3 = .ok (.iload_n 3, 1) := by decide +kernel
theorem dX5_isLevel_4 : decode cX5_isLevel 4 = .ok (.iconst 0, 1) := by decide +kernel
theorem dX5_isLevel_5 : decode cX5_isLevel 5 = .ok (.iload 4, 2) := by decide +kernel
theorem dX5_isLevel_7 : decode cX5_isLevel 7 = .ok (.invokevirtual 146, 3) := by decide +kernel
theorem dX5_isLevel_10 : decode cX5_isLevel 10 = .ok (.ifCond .eq 23, 3) := by decide +kernel
theorem dX5_isLevel_13 : decode cX5_isLevel 13 = .ok (.aload_n 0, 1) := by decide +kernel
theorem dX5_isLevel_14 : decode cX5_isLevel 14 = .ok (.iload_n 1, 1) := by decide +kernel
theorem dX5_isLevel_15 : decode cX5_isLevel 15 = .ok (.iload_n 2, 1) := by decide +kernel
theorem dX5_isLevel_16 : decode cX5_isLevel 16 = .ok (.iload_n 3, 1) := by decide +kernel
theorem dX5_isLevel_17 : decode cX5_isLevel 17 = .ok (.aload_n 0, 1) := by decide +kernel
theorem dX5_isLevel_18 : decode cX5_isLevel 18 = .ok (.getfield 102, 3) := by decide +kernel
theorem dX5_isLevel_21 : decode cX5_isLevel 21 = .ok (.iload 4, 2) := by decide +kernel
theorem dX5_isLevel_23 : decode cX5_isLevel 23 = .ok (.invokevirtual 146, 3) := by decide +kernel
theorem dX5_isLevel_26 : decode cX5_isLevel 26 = .ok (.ifCond .eq 7, 3) := by decide +kernel
theorem dX5_isLevel_29 : decode cX5_isLevel 29 = .ok (.iconst 1, 1) := by decide +kernel
theorem dX5_isLevel_30 : decode cX5_isLevel 30 = .ok (.goto 4, 3) := by decide +kernel
theorem dX5_isLevel_33 : decode cX5_isLevel 33 = .ok (.iconst 0, 1) := by decide +kernel
theorem dX5_isLevel_34 : decode cX5_isLevel 34 = .ok (.ireturn, 1) := by decide +kernel
theorem dX5_weighs_0 : decode cX5_weighs 0 = .ok (.aload_n 0, 1) := by decide +kernel
theorem dX5_weighs_1 : decode cX5_weighs 1 = .ok (.iload_n 1, 1) := by decide +kernel
theorem dX5_weighs_2 : decode cX5_weighs 2 = .ok (.invokevirtual 118, 3) := by decide +kernel
theorem dX5_weighs_5 : decode cX5_weighs 5 = .ok (.ifCond .ne 5, 3) := by decide +kernel
theorem dX5_weighs_8 : decode cX5_weighs 8 = .ok (.iconst (-1), 1) := by decide +kernel
theorem dX5_weighs_9 : decode cX5_weighs 9 = .ok (.ireturn, 1) := by decide +kernel
theorem dX5_weighs_10 : decode cX5_weighs 10 = .ok (.iload_n 2, 1) := by decide +kernel
theorem dX5_weighs_11 : decode cX5_weighs 11 = .ok (.i2l, 1) := by decide +kernel
theorem dX5_weighs_12 : decode cX5_weighs 12 = .ok (.lconst 0, 1) := by decide +kernel
theorem dX5_weighs_13 : decode cX5_weighs 13 = .ok (.ldc2_w 86, 3) := by decide +kernel
theorem dX5_weighs_16 : decode cX5_weighs 16 = .ok (.invokestatic 70, 3) := by decide +kernel
theorem dX5_weighs_19 : decode cX5_weighs 19 = .ok (.ifCond .eq 18, 3) := by decide +kernel
theorem dX5_weighs_22 : decode cX5_weighs 22 = .ok (.aload_n 0, 1) := by decide +kernel
theorem dX5_weighs_23 : decode cX5_weighs 23 = .ok (.aload_n 0, 1) := by decide +kernel
theorem dX5_weighs_24 : decode cX5_weighs 24 = .ok (.iload_n 1, 1) := by decide +kernel
theorem dX5_weighs_25 : decode cX5_weighs 25 = .ok (.invokevirtual 125, 3) := by decide +kernel
theorem dX5_weighs_28 : decode cX5_weighs 28 = .ok (.iload_n 1, 1) := by decide +kernel
theorem dX5_weighs_29 : decode cX5_weighs 29 = .ok (.iload_n 2, 1) := by decide +kernel
theorem dX5_weighs_30 : decode cX5_weighs 30 = .ok (.iconst 0, 1) := by decide +kernel
theorem dX5_weighs_31 : decode cX5_weighs 31 = .ok (.invokevirtual 138, 3) := by decide +kernel
theorem dX5_weighs_34 : decode cX5_weighs 34 = .ok (.goto 5, 3) := by decide +kernel
theorem dX5_weighs_37 : decode cX5_weighs 37 = .ok (.bipush (-2), 2) := by decide +kernel
theorem dX5_weighs_39 : decode cX5_weighs 39 = .ok (.ireturn, 1) := by decide +kernel
theorem dX5_off_0 : decode cX5_off 0 = .ok (.iload_n 1, 1) := by decide +kernel
theorem dX5_off_1 : decode cX5_off 1 = .ok (.i2l, 1) := by decide +kernel
theorem dX5_off_2 : decode cX5_off 2 = .ok (.lconst 0, 1) := by decide +kernel
theorem dX5_off_3 : decode cX5_off 3 = .ok (.ldc2_w 86, 3) := by decide +kernel
theorem dX5_off_6 : decode cX5_off 6 = .ok (.invokestatic 70, 3) := by decide +kernel
theorem dX5_off_9 : decode cX5_off 9 = .ok (.ifCond .ne 6, 3) := by decide +kernel
theorem dX5_off_12 : decode cX5_off 12 = .ok (.bipush (-2), 2) := by decide +kernel
theorem dX5_off_14 : decode cX5_off 14 = .ok (.ireturn, 1) := by decide +kernel
theorem dX5_off_15 : decode cX5_off 15 = .ok (.sipush 10000, 3) := by decide +kernel
theorem dX5_off_18 : decode cX5_off 18 = .ok (.aload_n 0, 1) := by decide +kernel
theorem dX5_off_19 : decode cX5_off 19 = .ok (.aload_n 0, 1) := by decide +kernel
theorem dX5_off_20 : decode cX5_off 20 = .ok (.aload_n 0, 1) := by decide +kernel
theorem dX5_off_21 : decode cX5_off 21 = .ok (.iconst 0, 1) := by decide +kernel
theorem dX5_off_22 : decode cX5_off 22 = .ok (.invokevirtual 125, 3) := by decide +kernel
theorem dX5_off_25 : decode cX5_off 25 = .ok (.iconst 0, 1) := by decide +kernel
theorem dX5_off_26 : decode cX5_off 26 = .ok (.iload_n 1, 1) := by decide +kernel
theorem dX5_off_27 : decode cX5_off 27 = .ok (.iconst 0, 1) := by decide +kernel
theorem dX5_off_28 : decode cX5_off 28 = .ok (.invokevirtual 138, 3) := by decide +kernel
theorem dX5_off_31 : decode cX5_off 31 = .ok (.aload_n 0, 1) := by decide +kernel
theorem dX5_off_32 : decode cX5_off 32 = .ok (.aload_n 0, 1) := by decide +kernel
theorem dX5_off_33 : decode cX5_off 33 = .ok (.iconst 1, 1) := by decide +kernel
theorem dX5_off_34 : decode cX5_off 34 = .ok (.invokevirtual 125, 3) := by decide +kernel
theorem dX5_off_37 : decode cX5_off 37 = .ok (.iconst 1, 1) := by decide +kernel
theorem dX5_off_38 : decode cX5_off 38 = .ok (.iload_n 1, 1) := by decide +kernel
theorem dX5_off_39 : decode cX5_off 39 = .ok (.iconst 0, 1) := by decide +kernel
theorem dX5_off_40 : decode cX5_off 40 = .ok (.invokevirtual 138, 3) := by decide +kernel
theorem dX5_off_43 : decode cX5_off 43 = .ok (.aload_n 0, 1) := by decide +kernel
theorem dX5_off_44 : decode cX5_off 44 = .ok (.aload_n 0, 1) := by decide +kernel
theorem dX5_off_45 : decode cX5_off 45 = .ok (.iconst 2, 1) := by decide +kernel
theorem dX5_off_46 : decode cX5_off 46 = .ok (.invokevirtual 125, 3) := by decide +kernel
theorem dX5_off_49 : decode cX5_off 49 = .ok (.iconst 2, 1) := by decide +kernel
theorem dX5_off_50 : decode cX5_off 50 = .ok (.iload_n 1, 1) := by decide +kernel
theorem dX5_off_51 : decode cX5_off 51 = .ok (.iconst 0, 1) := by decide +kernel
theorem dX5_off_52 : decode cX5_off 52 = .ok (.invokevirtual 138, 3) := by decide +kernel
theorem dX5_off_55 : decode cX5_off 55 = .ok (.invokevirtual 142, 3) := by decide +kernel
theorem dX5_off_58 : decode cX5_off 58 = .ok (.iadd, 1) := by decide +kernel
theorem dX5_off_59 : decode cX5_off 59 = .ok (.ireturn, 1) := by decide +kernel
theorem dX5_fares_0 : decode cX5_fares 0 = .ok (.iconst 0, 1) := by decide +kernel
theorem dX5_fares_1 : decode cX5_fares 1 = .ok (.istore_n 2, 1) := by decide +kernel
theorem dX5_fares_2 : decode cX5_fares 2 = .ok (.iconst 0, 1) := by decide +kernel
theorem dX5_fares_3 : decode cX5_fares 3 = .ok (.istore_n 3, 1) := by decide +kernel
theorem dX5_fares_4 : decode cX5_fares 4 = .ok (.iload_n 3, 1) := by decide +kernel
theorem dX5_fares_5 : decode cX5_fares 5 = .ok (.aload_n 0, 1) := by decide +kernel
theorem dX5_fares_6 : decode cX5_fares 6 = .ok (.getfield 99, 3) := by decide +kernel
theorem dX5_fares_9 : decode cX5_fares 9 = .ok (.if_icmp .ge 35, 3) := by decide +kernel
theorem dX5_fares_12 : decode cX5_fares 12 = .ok (.iload_n 2, 1) := by decide +kernel
theorem dX5_fares_13 : decode cX5_fares 13 = .ok (.iload_n 1, 1) := by decide +kernel
theorem dX5_fares_14 : decode cX5_fares 14 = .ok (.iload_n 3, 1) := by decide +kernel
theorem dX5_fares_15 : decode cX5_fares 15 = .ok (.ishr, 1) := by decide +kernel
theorem dX5_fares_16 : decode cX5_fares 16 = .ok (.iconst 1, 1) := by decide +kernel
theorem dX5_fares_17 : decode cX5_fares 17 = .ok (.iand, 1) := by decide +kernel
theorem dX5_fares_18 : decode cX5_fares 18 = .ok (.iconst 1, 1) := by decide +kernel
theorem dX5_fares_19 : decode cX5_fares 19 = .ok (.if_icmp .ne 16, 3) := by decide +kernel
theorem dX5_fares_22 : decode cX5_fares 22 = .ok (.aload_n 0, 1) := by decide +kernel
theorem dX5_fares_23 : decode cX5_fares 23 = .ok (.getfield 19, 3) := by decide +kernel
theorem dX5_fares_26 : decode cX5_fares 26 = .ok (.iconst 3, 1) := by decide +kernel
theorem dX5_fares_27 : decode cX5_fares 27 = .ok (.iload_n 3, 1) := by decide +kernel
theorem dX5_fares_28 : decode cX5_fares 28 = .ok (.imul, 1) := by decide +kernel
theorem dX5_fares_29 : decode cX5_fares 29 = .ok (.iconst 1, 1) := by decide +kernel
theorem dX5_fares_30 : decode cX5_fares 30 = .ok (.iadd, 1) := by decide +kernel
theorem dX5_fares_31 : decode cX5_fares 31 = .ok (.iaload, 1) := by decide +kernel
theorem dX5_fares_32 : decode cX5_fares 32 = .ok (.goto 4, 3) := by decide +kernel
theorem dX5_fares_35 : decode cX5_fares 35 = .ok (.iconst 0, 1) := by decide +kernel
theorem dX5_fares_36 : decode cX5_fares 36 = .ok (.iadd, 1) := by decide +kernel
theorem dX5_fares_37 : decode cX5_fares 37 = .ok (.istore_n 2, 1) := by decide +kernel
theorem dX5_fares_38 : decode cX5_fares 38 = .ok (.iinc 3 1, 3) := by decide +kernel
theorem dX5_fares_41 : decode cX5_fares 41 = .ok (.goto (-37), 3) := by decide +kernel
theorem dX5_fares_44 : decode cX5_fares 44 = .ok (.iload_n 2, 1) := by decide +kernel
theorem dX5_fares_45 : decode cX5_fares 45 = .ok (.ireturn, 1) := by decide +kernel
theorem dX5_leave_0 : decode cX5_leave 0 = .ok (.aload_n 0, 1) := by decide +kernel
theorem dX5_leave_1 : decode cX5_leave 1 = .ok (.iconst 0, 1) := by decide +kernel
theorem dX5_leave_2 : decode cX5_leave 2 = .ok (.invokevirtual 125, 3) := by decide +kernel
theorem dX5_leave_5 : decode cX5_leave 5 = .ok (.istore_n 1, 1) := by decide +kernel
theorem dX5_leave_6 : decode cX5_leave 6 = .ok (.aload_n 0, 1) := by decide +kernel
theorem dX5_leave_7 : decode cX5_leave 7 = .ok (.iconst 1, 1) := by decide +kernel
theorem dX5_leave_8 : decode cX5_leave 8 = .ok (.invokevirtual 125, 3) := by decide +kernel
theorem dX5_leave_11 : decode cX5_leave 11 = .ok (.istore_n 2, 1) := by decide +kernel
theorem dX5_leave_12 : decode cX5_leave 12 = .ok (.aload_n 0, 1) := by decide +kernel
theorem dX5_leave_13 : decode cX5_leave 13 = .ok (.iconst 2, 1) := by decide +kernel
theorem dX5_leave_14 : decode cX5_leave 14 = .ok (.invokevirtual 125, 3) := by decide +kernel
theorem dX5_leave_17 : decode cX5_leave 17 = .ok (.istore_n 3, 1) := by decide +kernel
theorem dX5_leave_18 : decode cX5_leave 18 = .ok (.aload_n 0, 1) := by decide +kernel
theorem dX5_leave_19 : decode cX5_leave 19 = .ok (.invokevirtual 131, 3) := by decide +kernel
theorem dX5_leave_22 : decode cX5_leave 22 = .ok (.ifCond .eq 14, 3) := by decide +kernel
theorem dX5_leave_25 : decode cX5_leave 25 = .ok (.aload_n 0, 1) := by decide +kernel
theorem dX5_leave_26 : decode cX5_leave 26 = .ok (.iload_n 1, 1) := by decide +kernel
theorem dX5_leave_27 : decode cX5_leave 27 = .ok (.iload_n 2, 1) := by decide +kernel
theorem dX5_leave_28 : decode cX5_leave 28 = .ok (.iload_n 3, 1) := by decide +kernel
theorem dX5_leave_29 : decode cX5_leave 29 = .ok (.iconst 0, 1) := by decide +kernel
theorem dX5_leave_30 : decode cX5_leave 30 = .ok (.invokevirtual 150, 3) := by decide +kernel
theorem dX5_leave_33 : decode cX5_leave 33 = .ok (.ifCond .ne 6, 3) := by decide +kernel
theorem dX5_leave_36 : decode cX5_leave 36 = .ok (.bipush (-3), 2) := by decide +kernel
theorem dX5_leave_38 : decode cX5_leave 38 = .ok (.ireturn, 1) := by decide +kernel
theorem dX5_leave_39 : decode cX5_leave 39 = .ok (.aload_n 0, 1) := by decide +kernel
theorem dX5_leave_40 : decode cX5_leave 40 = .ok (.getfield 105, 3) := by decide +kernel
theorem dX5_leave_43 : decode cX5_leave 43 = .ok (.bipush 8, 2) := by decide +kernel
theorem dX5_leave_45 : decode cX5_leave 45 = .ok (.if_icmp .ne 6, 3) := by decide +kernel
theorem dX5_leave_48 : decode cX5_leave 48 = .ok (.bipush (-4), 2) := by decide +kernel
theorem dX5_leave_50 : decode cX5_leave 50 = .ok (.ireturn, 1) := by decide +kernel
theorem dX5_leave_51 : decode cX5_leave 51 = .ok (.aload_n 0, 1) := by decide +kernel
theorem dX5_leave_52 : decode cX5_leave 52 = .ok (.getfield 34, 3) := by decide +kernel
theorem dX5_leave_55 : decode cX5_leave 55 = .ok (.iconst 3, 1) := by decide +kernel
theorem dX5_leave_56 : decode cX5_leave 56 = .ok (.aload_n 0, 1) := by decide +kernel
theorem dX5_leave_57 : decode cX5_leave 57 = .ok (.getfield 105, 3) := by decide +kernel
theorem dX5_leave_60 : decode cX5_leave 60 = .ok (.imul, 1) := by decide +kernel
theorem dX5_leave_61 : decode cX5_leave 61 = .ok (.iload_n 1, 1) := by decide +kernel
theorem dX5_leave_62 : decode cX5_leave 62 = .ok (.iastore, 1) := by decide +kernel
theorem dX5_leave_63 : decode cX5_leave 63 = .ok (.aload_n 0, 1) := by decide +kernel
theorem dX5_leave_64 : decode cX5_leave 64 = .ok (.getfield 34, 3) := by decide +kernel
theorem dX5_leave_67 : decode cX5_leave 67 = .ok (.iconst 3, 1) := by decide +kernel
theorem dX5_leave_68 : decode cX5_leave 68 = .ok (.aload_n 0, 1) := by decide +kernel
theorem dX5_leave_69 : decode cX5_leave 69 = .ok (.getfield 105, 3) := by decide +kernel
theorem dX5_leave_72 : decode cX5_leave 72 = .ok (.imul, 1) := by decide +kernel
theorem dX5_leave_73 : decode cX5_leave 73 = .ok (.iconst 1, 1) := by decide +kernel
theorem dX5_leave_74 : decode cX5_leave 74 = .ok (.iadd, 1) := by decide +kernel
theorem dX5_leave_75 : decode cX5_leave 75 = .ok (.iload_n 2, 1) := by decide +kernel
theorem dX5_leave_76 : decode cX5_leave 76 = .ok (.iastore, 1) := by decide +kernel
theorem dX5_leave_77 : decode cX5_leave 77 = .ok (.aload_n 0, 1) := by decide +kernel
theorem dX5_leave_78 : decode cX5_leave 78 = .ok (.getfield 34, 3) := by decide +kernel
theorem dX5_leave_81 : decode cX5_leave 81 = .ok (.iconst 3, 1) := by decide +kernel
theorem dX5_leave_82 : decode cX5_leave 82 = .ok (.aload_n 0, 1) := by decide +kernel
theorem dX5_leave_83 : decode cX5_leave 83 = .ok (.getfield 105, 3) := by decide +kernel
theorem dX5_leave_86 : decode cX5_leave 86 = .ok (.imul, 1) := by decide +kernel
theorem dX5_leave_87 : decode cX5_leave 87 = .ok (.iconst 2, 1) := by decide +kernel
theorem dX5_leave_88 : decode cX5_leave 88 = .ok (.iadd, 1) := by decide +kernel
theorem dX5_leave_89 : decode cX5_leave 89 = .ok (.iload_n 3, 1) := by decide +kernel
theorem dX5_leave_90 : decode cX5_leave 90 = .ok (.iastore, 1) := by decide +kernel
theorem dX5_leave_91 : decode cX5_leave 91 = .ok (.aload_n 0, 1) := by decide +kernel
theorem dX5_leave_92 : decode cX5_leave 92 = .ok (.dup, 1) := by decide +kernel
theorem dX5_leave_93 : decode cX5_leave 93 = .ok (.getfield 105, 3) := by decide +kernel
theorem dX5_leave_96 : decode cX5_leave 96 = .ok (.iconst 1, 1) := by decide +kernel
theorem dX5_leave_97 : decode cX5_leave 97 = .ok (.iadd, 1) := by decide +kernel
theorem dX5_leave_98 : decode cX5_leave 98 = .ok (.putfield 105, 3) := by decide +kernel
theorem dX5_leave_101 : decode cX5_leave 101 = .ok (.iconst 0, 1) := by decide +kernel
theorem dX5_leave_102 : decode cX5_leave 102 = .ok (.istore 4, 2) := by decide +kernel
theorem dX5_leave_104 : decode cX5_leave 104 = .ok (.iload 4, 2) := by decide +kernel
theorem dX5_leave_106 : decode cX5_leave 106 = .ok (.aload_n 0, 1) := by decide +kernel
theorem dX5_leave_107 : decode cX5_leave 107 = .ok (.getfield 99, 3) := by decide +kernel
theorem dX5_leave_110 : decode cX5_leave 110 = .ok (.if_icmp .ge 40, 3) := by decide +kernel
theorem dX5_leave_113 : decode cX5_leave 113 = .ok (.aload_n 0, 1) := by decide +kernel
theorem dX5_leave_114 : decode cX5_leave 114 = .ok (.getfield 28, 3) := by decide +kernel
theorem dX5_leave_117 : decode cX5_leave 117 = .ok (.iload 4, 2) := by decide +kernel
theorem dX5_leave_119 : decode cX5_leave 119 = .ok (.aload_n 0, 1) := by decide +kernel
theorem dX5_leave_120 : decode cX5_leave 120 = .ok (.getfield 28, 3) := by decide +kernel
theorem dX5_leave_123 : decode cX5_leave 123 = .ok (.iload 4, 2) := by decide +kernel
theorem dX5_leave_125 : decode cX5_leave 125 = .ok (.iaload, 1) := by decide +kernel
theorem dX5_leave_126 : decode cX5_leave 126 = .ok (.bipush 10, 2) := by decide +kernel
theorem dX5_leave_128 : decode cX5_leave 128 = .ok (.if_icmp .ge 8, 3) := by decide +kernel
theorem dX5_leave_131 : decode cX5_leave 131 = .ok (.bipush 20, 2) := by decide +kernel
theorem dX5_leave_133 : decode cX5_leave 133 = .ok (.goto 10, 3) := by decide +kernel
theorem dX5_leave_136 : decode cX5_leave 136 = .ok (.aload_n 0, 1) := by decide +kernel
theorem dX5_leave_137 : decode cX5_leave 137 = .ok (.getfield 28, 3) := by decide +kernel
theorem dX5_leave_140 : decode cX5_leave 140 = .ok (.iload 4, 2) := by decide +kernel
theorem dX5_leave_142 : decode cX5_leave 142 = .ok (.iaload, 1) := by decide +kernel
theorem dX5_leave_143 : decode cX5_leave 143 = .ok (.iastore, 1) := by decide +kernel
theorem dX5_leave_144 : decode cX5_leave 144 = .ok (.iinc 4 1, 3) := by decide +kernel
theorem dX5_leave_147 : decode cX5_leave 147 = .ok (.goto (-43), 3) := by decide +kernel
theorem dX5_leave_150 : decode cX5_leave 150 = .ok (.aload_n 0, 1) := by decide +kernel
theorem dX5_leave_151 : decode cX5_leave 151 = .ok (.iload_n 1, 1) := by decide +kernel
theorem dX5_leave_152 : decode cX5_leave 152 = .ok (.iload_n 2, 1) := by decide +kernel
theorem dX5_leave_153 : decode cX5_leave 153 = .ok (.ior, 1) := by decide +kernel
theorem dX5_leave_154 : decode cX5_leave 154 = .ok (.iload_n 3, 1) := by decide +kernel
theorem dX5_leave_155 : decode cX5_leave 155 = .ok (.ior, 1) := by decide +kernel
theorem dX5_leave_156 : decode cX5_leave 156 = .ok (.invokevirtual 154, 3) := by decide +kernel
theorem dX5_leave_159 : decode cX5_leave 159 = .ok (.ireturn, 1) := by decide +kernel
theorem dX5_back_0 : decode cX5_back 0 = .ok (.aload_n 0, 1) := by decide +kernel
theorem dX5_back_1 : decode cX5_back 1 = .ok (.getfield 105, 3) := by decide +kernel
theorem dX5_back_4 : decode cX5_back 4 = .ok (.ifCond .ne 6, 3) := by decide +kernel
theorem dX5_back_7 : decode cX5_back 7 = .ok (.bipush (-3), 2) := by decide +kernel
theorem dX5_back_9 : decode cX5_back 9 = .ok (.ireturn, 1) := by decide +kernel
theorem dX5_back_10 : decode cX5_back 10 = .ok (.aload_n 0, 1) := by decide +kernel
theorem dX5_back_11 : decode cX5_back 11 = .ok (.dup, 1) := by decide +kernel
theorem dX5_back_12 : decode cX5_back 12 = .ok (.getfield 105, 3) := by decide +kernel
theorem dX5_back_15 : decode cX5_back 15 = .ok (.iconst 1, 1) := by decide +kernel
theorem dX5_back_16 : decode cX5_back 16 = .ok (.isub, 1) := by decide +kernel
theorem dX5_back_17 : decode cX5_back 17 = .ok (.putfield 105, 3) := by decide +kernel
theorem dX5_back_20 : decode cX5_back 20 = .ok (.iconst 0, 1) := by decide +kernel
theorem dX5_back_21 : decode cX5_back 21 = .ok (.istore_n 1, 1) := by decide +kernel
theorem dX5_back_22 : decode cX5_back 22 = .ok (.iload_n 1, 1) := by decide +kernel
theorem dX5_back_23 : decode cX5_back 23 = .ok (.aload_n 0, 1) := by decide +kernel
theorem dX5_back_24 : decode cX5_back 24 = .ok (.getfield 99, 3) := by decide +kernel
theorem dX5_back_27 : decode cX5_back 27 = .ok (.if_icmp .ge 87, 3) := by decide +kernel
theorem dX5_back_30 : decode cX5_back 30 = .ok (.aload_n 0, 1) := by decide +kernel
theorem dX5_back_31 : decode cX5_back 31 = .ok (.getfield 28, 3) := by decide +kernel
theorem dX5_back_34 : decode cX5_back 34 = .ok (.iload_n 1, 1) := by decide +kernel
theorem dX5_back_35 : decode cX5_back 35 = .ok (.aload_n 0, 1) := by decide +kernel
theorem dX5_back_36 : decode cX5_back 36 = .ok (.getfield 28, 3) := by decide +kernel
theorem dX5_back_39 : decode cX5_back 39 = .ok (.iload_n 1, 1) := by decide +kernel
theorem dX5_back_40 : decode cX5_back 40 = .ok (.iaload, 1) := by decide +kernel
theorem dX5_back_41 : decode cX5_back 41 = .ok (.bipush 10, 2) := by decide +kernel
theorem dX5_back_43 : decode cX5_back 43 = .ok (.if_icmp .ge 8, 3) := by decide +kernel
theorem dX5_back_46 : decode cX5_back 46 = .ok (.bipush 10, 2) := by decide +kernel
theorem dX5_back_48 : decode cX5_back 48 = .ok (.goto 9, 3) := by decide +kernel
theorem dX5_back_51 : decode cX5_back 51 = .ok (.aload_n 0, 1) := by decide +kernel
theorem dX5_back_52 : decode cX5_back 52 = .ok (.getfield 28, 3) := by decide +kernel
theorem dX5_back_55 : decode cX5_back 55 = .ok (.iload_n 1, 1) := by decide +kernel
theorem dX5_back_56 : decode cX5_back 56 = .ok (.iaload, 1) := by decide +kernel
theorem dX5_back_57 : decode cX5_back 57 = .ok (.iastore, 1) := by decide +kernel
theorem dX5_back_58 : decode cX5_back 58 = .ok (.iconst 0, 1) := by decide +kernel
theorem dX5_back_59 : decode cX5_back 59 = .ok (.istore_n 2, 1) := by decide +kernel
theorem dX5_back_60 : decode cX5_back 60 = .ok (.iload_n 2, 1) := by decide +kernel
theorem dX5_back_61 : decode cX5_back 61 = .ok (.iconst 3, 1) := by decide +kernel
theorem dX5_back_62 : decode cX5_back 62 = .ok (.if_icmp .ge 46, 3) := by decide +kernel
theorem dX5_back_65 : decode cX5_back 65 = .ok (.aload_n 0, 1) := by decide +kernel
theorem dX5_back_66 : decode cX5_back 66 = .ok (.getfield 28, 3) := by decide +kernel
theorem dX5_back_69 : decode cX5_back 69 = .ok (.iload_n 1, 1) := by decide +kernel
theorem dX5_back_70 : decode cX5_back 70 = .ok (.aload_n 0, 1) := by decide +kernel
theorem dX5_back_71 : decode cX5_back 71 = .ok (.getfield 34, 3) := by decide +kernel
theorem dX5_back_74 : decode cX5_back 74 = .ok (.iconst 3, 1) := by decide +kernel
theorem dX5_back_75 : decode cX5_back 75 = .ok (.aload_n 0, 1) := by decide +kernel
theorem dX5_back_76 : decode cX5_back 76 = .ok (.getfield 105, 3) := by decide +kernel
theorem dX5_back_79 : decode cX5_back 79 = .ok (.imul, 1) := by decide +kernel
theorem dX5_back_80 : decode cX5_back 80 = .ok (.iload_n 2, 1) := by decide +kernel
theorem dX5_back_81 : decode cX5_back 81 = .ok (.iadd, 1) := by decide +kernel
theorem dX5_back_82 : decode cX5_back 82 = .ok (.iaload, 1) := by decide +kernel
theorem dX5_back_83 : decode cX5_back 83 = .ok (.iload_n 1, 1) := by decide +kernel
theorem dX5_back_84 : decode cX5_back 84 = .ok (.ishr, 1) := by decide +kernel
theorem dX5_back_85 : decode cX5_back 85 = .ok (.iconst 1, 1) := by decide +kernel
theorem dX5_back_86 : decode cX5_back 86 = .ok (.iand, 1) := by decide +kernel
theorem dX5_back_87 : decode cX5_back 87 = .ok (.iconst 1, 1) := by decide +kernel
theorem dX5_back_88 : decode cX5_back 88 = .ok (.if_icmp .ne 7, 3) := by decide +kernel
theorem dX5_back_91 : decode cX5_back 91 = .ok (.iload_n 2, 1) := by decide +kernel
theorem dX5_back_92 : decode cX5_back 92 = .ok (.goto 9, 3) := by decide +kernel
theorem dX5_back_95 : decode cX5_back 95 = .ok (.aload_n 0, 1) := by decide +kernel
theorem dX5_back_96 : decode cX5_back 96 = .ok (.getfield 28, 3) := by decide +kernel
theorem dX5_back_99 : decode cX5_back 99 = .ok (.iload_n 1, 1) := by decide +kernel
theorem dX5_back_100 : decode cX5_back 100 = .ok (.iaload, 1) := by decide +kernel
theorem dX5_back_101 : decode cX5_back 101 = .ok (.iastore, 1) := by decide +kernel
theorem dX5_back_102 : decode cX5_back 102 = .ok (.iinc 2 1, 3) := by decide +kernel
theorem dX5_back_105 : decode cX5_back 105 = .ok (.goto (-45), 3) := by decide +kernel
theorem dX5_back_108 : decode cX5_back 108 = .ok (.iinc 1 1, 3) := by decide +kernel
theorem dX5_back_111 : decode cX5_back 111 = .ok (.goto (-89), 3) := by decide +kernel
theorem dX5_back_114 : decode cX5_back 114 = .ok (.aload_n 0, 1) := by decide +kernel
theorem dX5_back_115 : decode cX5_back 115 = .ok (.getfield 105, 3) := by decide +kernel
theorem dX5_back_118 : decode cX5_back 118 = .ok (.ireturn, 1) := by decide +kernel
theorem dX5_left_0 : decode cX5_left 0 = .ok (.iload_n 1, 1) := by decide +kernel
theorem dX5_left_1 : decode cX5_left 1 = .ok (.i2l, 1) := by decide +kernel
theorem dX5_left_2 : decode cX5_left 2 = .ok (.lconst 0, 1) := by decide +kernel
theorem dX5_left_3 : decode cX5_left 3 = .ok (.aload_n 0, 1) := by decide +kernel
theorem dX5_left_4 : decode cX5_left 4 = .ok (.getfield 105, 3) := by decide +kernel
theorem dX5_left_7 : decode cX5_left 7 = .ok (.iconst 1, 1) := by decide +kernel
theorem dX5_left_8 : decode cX5_left 8 = .ok (.isub, 1) := by decide +kernel
theorem dX5_left_9 : decode cX5_left 9 = .ok (.i2l, 1) := by decide +kernel
theorem dX5_left_10 : decode cX5_left 10 = .ok (.invokestatic 70, 3) := by decide +kernel
theorem dX5_left_13 : decode cX5_left 13 = .ok (.ifCond .eq 24, 3) := by decide +kernel
theorem dX5_left_16 : decode cX5_left 16 = .ok (.aload_n 0, 1) := by decide +kernel
theorem dX5_left_17 : decode cX5_left 17 = .ok (.iload_n 2, 1) := by decide +kernel
theorem dX5_left_18 : decode cX5_left 18 = .ok (.invokevirtual 118, 3) := by decide +kernel
theorem dX5_left_21 : decode cX5_left 21 = .ok (.ifCond .eq 16, 3) := by decide +kernel
theorem dX5_left_24 : decode cX5_left 24 = .ok (.aload_n 0, 1) := by decide +kernel
theorem dX5_left_25 : decode cX5_left 25 = .ok (.getfield 34, 3) := by decide +kernel
theorem dX5_left_28 : decode cX5_left 28 = .ok (.iconst 3, 1) := by decide +kernel
theorem dX5_left_29 : decode cX5_left 29 = .ok (.iload_n 1, 1) := by decide +kernel
theorem dX5_left_30 : decode cX5_left 30 = .ok (.imul, 1) := by decide +kernel
theorem dX5_left_31 : decode cX5_left 31 = .ok (.iload_n 2, 1) := by decide +kernel
theorem dX5_left_32 : decode cX5_left 32 = .ok (.iadd, 1) := by decide +kernel
theorem dX5_left_33 : decode cX5_left 33 = .ok (.iaload, 1) := by decide +kernel
theorem dX5_left_34 : decode cX5_left 34 = .ok (.goto 4, 3) := by decide +kernel
theorem dX5_left_37 : decode cX5_left 37 = .ok (.iconst (-1), 1) := by decide +kernel
theorem dX5_left_38 : decode cX5_left 38 = .ok (.ireturn, 1) := by decide +kernel
theorem dX5_laySets_0 : decode cX5_laySets 0 = .ok (.aload_n 0, 1) := by decide +kernel
theorem dX5_laySets_1 : decode cX5_laySets 1 = .ok (.getfield 37, 3) := by decide +kernel
theorem dX5_laySets_4 : decode cX5_laySets 4 = .ok (.iconst 0, 1) := by decide +kernel
theorem dX5_laySets_5 : decode cX5_laySets 5 = .ok (.iconst 0, 1) := by decide +kernel
theorem dX5_laySets_6 : decode cX5_laySets 6 = .ok (.iastore, 1) := by decide +kernel
theorem dX5_laySets_7 : decode cX5_laySets 7 = .ok (.aload_n 0, 1) := by decide +kernel
theorem dX5_laySets_8 : decode cX5_laySets 8 = .ok (.getfield 37, 3) := by decide +kernel
theorem dX5_laySets_11 : decode cX5_laySets 11 = .ok (.iconst 1, 1) := by decide +kernel
theorem dX5_laySets_12 : decode cX5_laySets 12 = .ok (.iconst 0, 1) := by decide +kernel
theorem dX5_laySets_13 : decode cX5_laySets 13 = .ok (.iastore, 1) := by decide +kernel
theorem dX5_laySets_14 : decode cX5_laySets 14 = .ok (.aload_n 0, 1) := by decide +kernel
theorem dX5_laySets_15 : decode cX5_laySets 15 = .ok (.getfield 37, 3) := by decide +kernel
theorem dX5_laySets_18 : decode cX5_laySets 18 = .ok (.iconst 2, 1) := by decide +kernel
theorem dX5_laySets_19 : decode cX5_laySets 19 = .ok (.iconst 0, 1) := by decide +kernel
theorem dX5_laySets_20 : decode cX5_laySets 20 = .ok (.iastore, 1) := by decide +kernel
theorem dX5_laySets_21 : decode cX5_laySets 21 = .ok (.iconst 0, 1) := by decide +kernel
theorem dX5_laySets_22 : decode cX5_laySets 22 = .ok (.istore_n 3, 1) := by decide +kernel
theorem dX5_laySets_23 : decode cX5_laySets 23 = .ok (.iload_n 3, 1) := by decide +kernel
theorem dX5_laySets_24 : decode cX5_laySets 24 = .ok (.aload_n 0, 1) := by decide +kernel
theorem dX5_laySets_25 : decode cX5_laySets 25 = .ok (.getfield 99, 3) := by decide +kernel
theorem dX5_laySets_28 : decode cX5_laySets 28 = .ok (.if_icmp .ge 74, 3) := by decide +kernel
theorem dX5_laySets_31 : decode cX5_laySets 31 = .ok (.iload_n 1, 1) := by decide +kernel
theorem dX5_laySets_32 : decode cX5_laySets 32 = .ok (.iconst 2, 1) := by decide +kernel
theorem dX5_laySets_33 : decode cX5_laySets 33 = .ok (.aload_n 0, 1) := by decide +kernel
theorem dX5_laySets_34 : decode cX5_laySets 34 = .ok (.getfield 99, 3) := by decide +kernel
theorem dX5_laySets_37 : decode cX5_laySets 37 = .ok (.iconst 1, 1) := by decide +kernel
theorem dX5_laySets_38 : decode cX5_laySets 38 = .ok (.isub, 1) := by decide +kernel
theorem dX5_laySets_39 : decode cX5_laySets 39 = .ok (.iload_n 3, 1) := by decide +kernel
theorem dX5_laySets_40 : decode cX5_laySets 40 = .ok (.isub, 1) := by decide +kernel
theorem dX5_laySets_41 : decode cX5_laySets 41 = .ok (.imul, 1) := by decide +kernel
theorem dX5_laySets_42 : decode cX5_laySets 42 = .ok (.ishr, 1) := by decide +kernel
theorem dX5_laySets_43 : decode cX5_laySets 43 = .ok (.iconst 3, 1) := by decide +kernel
theorem dX5_laySets_44 : decode cX5_laySets 44 = .ok (.iand, 1) := by decide +kernel
theorem dX5_laySets_45 : decode cX5_laySets 45 = .ok (.iconst 1, 1) := by decide +kernel
theorem dX5_laySets_46 : decode cX5_laySets 46 = .ok (.isub, 1) := by decide +kernel
theorem dX5_laySets_47 : decode cX5_laySets 47 = .ok (.istore 4, 2) := by decide +kernel
theorem dX5_laySets_49 : decode cX5_laySets 49 = .ok (.iload 4, 2) := by decide +kernel
theorem dX5_laySets_51 : decode cX5_laySets 51 = .ok (.ifCond .lt 45, 3) := by decide +kernel
theorem dX5_laySets_54 : decode cX5_laySets 54 = .ok (.iload_n 2, 1) := by decide +kernel
theorem dX5_laySets_55 : decode cX5_laySets 55 = .ok (.iload_n 3, 1) := by decide +kernel
theorem dX5_laySets_56 : decode cX5_laySets 56 = .ok (.ishr, 1) := by decide +kernel
theorem dX5_laySets_57 : decode cX5_laySets 57 = .ok (.iconst 1, 1) := by decide +kernel
theorem dX5_laySets_58 : decode cX5_laySets 58 = .ok (.iand, 1) := by decide +kernel
theorem dX5_laySets_59 : decode cX5_laySets 59 = .ok (.ifCond .eq 22, 3) := by decide +kernel
theorem dX5_laySets_62 : decode cX5_laySets 62 = .ok (.aload_n 0, 1) := by decide +kernel
theorem dX5_laySets_63 : decode cX5_laySets 63 = .ok (.iload 4, 2) := by decide +kernel
theorem dX5_laySets_65 : decode cX5_laySets 65 = .ok (.invokevirtual 118, 3) := by decide +kernel
theorem dX5_laySets_68 : decode cX5_laySets 68 = .ok (.ifCond .eq 13, 3) := by decide +kernel
theorem dX5_laySets_71 : decode cX5_laySets 71 = .ok (.aload_n 0, 1) := by decide +kernel
theorem dX5_laySets_72 : decode cX5_laySets 72 = .ok (.iload_n 3, 1) := by decide +kernel
theorem dX5_laySets_73 : decode cX5_laySets 73 = .ok (.iload 4, 2) := by decide +kernel
theorem dX5_laySets_75 : decode cX5_laySets 75 = .ok (.invokevirtual 121, 3) := by decide +kernel
theorem dX5_laySets_78 : decode cX5_laySets 78 = .ok (.ifCond .ne 5, 3) := by decide +kernel
theorem dX5_laySets_81 : decode cX5_laySets 81 = .ok (.iconst 0, 1) := by decide +kernel
theorem dX5_laySets_82 : decode cX5_laySets 82 = .ok (.ireturn, 1) := by decide +kernel
theorem dX5_laySets_83 : decode cX5_laySets 83 = .ok (.aload_n 0, 1) := by decide +kernel
theorem dX5_laySets_84 : decode cX5_laySets 84 = .ok (.getfield 37, 3) := by decide +kernel
theorem dX5_laySets_87 : decode cX5_laySets 87 = .ok (.iload 4, 2) := by decide +kernel
theorem dX5_laySets_89 : decode cX5_laySets 89 = .ok (.dup2, 1) := by decide +kernel
theorem dX5_laySets_90 : decode cX5_laySets 90 = .ok (.iaload, 1) := by decide +kernel
theorem dX5_laySets_91 : decode cX5_laySets 91 = .ok (.iconst 1, 1) := by decide +kernel
theorem dX5_laySets_92 : decode cX5_laySets 92 = .ok (.iload_n 3, 1) := by decide +kernel
theorem dX5_laySets_93 : decode cX5_laySets 93 = .ok (.ishl, 1) := by decide +kernel
theorem dX5_laySets_94 : decode cX5_laySets 94 = .ok (.ior, 1) := by decide +kernel
theorem dX5_laySets_95 : decode cX5_laySets 95 = .ok (.iastore, 1) := by decide +kernel
theorem dX5_laySets_96 : decode cX5_laySets 96 = .ok (.iinc 3 1, 3) := by decide +kernel
theorem dX5_laySets_99 : decode cX5_laySets 99 = .ok (.goto (-76), 3) := by decide +kernel
theorem dX5_laySets_102 : decode cX5_laySets 102 = .ok (.iload_n 1, 1) := by decide +kernel
theorem dX5_laySets_103 : decode cX5_laySets 103 = .ok (.ifCond .le 61, 3) := by decide +kernel
theorem dX5_laySets_106 : decode cX5_laySets 106 = .ok (.aload_n 0, 1) := by decide +kernel
theorem dX5_laySets_107 : decode cX5_laySets 107 = .ok (.getfield 37, 3) := by decide +kernel
theorem dX5_laySets_110 : decode cX5_laySets 110 = .ok (.iconst 0, 1) := by decide +kernel
theorem dX5_laySets_111 : decode cX5_laySets 111 = .ok (.iaload, 1) := by decide +kernel
theorem dX5_laySets_112 : decode cX5_laySets 112 = .ok (.invokestatic 128, 3) := by decide +kernel
theorem dX5_laySets_115 : decode cX5_laySets 115 = .ok (.aload_n 0, 1) := by decide +kernel
theorem dX5_laySets_116 : decode cX5_laySets 116 = .ok (.getfield 16, 3) := by decide +kernel
theorem dX5_laySets_119 : decode cX5_laySets 119 = .ok (.iconst 3, 1) := by decide +kernel
theorem dX5_laySets_120 : decode cX5_laySets 120 = .ok (.iaload, 1) := by decide +kernel
theorem dX5_laySets_121 : decode cX5_laySets 121 = .ok (.if_icmp .gt 43, 3) := by decide +kernel
theorem dX5_laySets_124 : decode cX5_laySets 124 = .ok (.aload_n 0, 1) := by decide +kernel
theorem dX5_laySets_125 : decode cX5_laySets 125 = .ok (.getfield 37, 3) := by decide +kernel
theorem dX5_laySets_128 : decode cX5_laySets 128 = .ok (.iconst 1, 1) := by decide +kernel
theorem dX5_laySets_129 : decode cX5_laySets 129 = .ok (.iaload, 1) := by decide +kernel
theorem dX5_laySets_130 : decode cX5_laySets 130 = .ok (.invokestatic 128, 3) := by decide +kernel
theorem dX5_laySets_133 : decode cX5_laySets 133 = .ok (.aload_n 0, 1) := by decide +kernel
theorem dX5_laySets_134 : decode cX5_laySets 134 = .ok (.getfield 16, 3) := by decide +kernel
theorem dX5_laySets_137 : decode cX5_laySets 137 = .ok (.iconst 3, 1) := by decide +kernel
theorem dX5_laySets_138 : decode cX5_laySets 138 = .ok (.iaload, 1) := by decide +kernel
theorem dX5_laySets_139 : decode cX5_laySets 139 = .ok (.if_icmp .gt 25, 3) := by decide +kernel
theorem dX5_laySets_142 : decode cX5_laySets 142 = .ok (.aload_n 0, 1) := by decide +kernel
theorem dX5_laySets_143 : decode cX5_laySets 143 = .ok (.getfield 37, 3) := by decide +kernel
theorem dX5_laySets_146 : decode cX5_laySets 146 = .ok (.iconst 2, 1) := by decide +kernel
theorem dX5_laySets_147 : decode cX5_laySets 147 = .ok (.iaload, 1) := by decide +kernel
theorem dX5_laySets_148 : decode cX5_laySets 148 = .ok (.invokestatic 128, 3) := by decide +kernel
theorem dX5_laySets_151 : decode cX5_laySets 151 = .ok (.aload_n 0, 1) := by decide +kernel
theorem dX5_laySets_152 : decode cX5_laySets 152 = .ok (.getfield 16, 3) := by decide +kernel
theorem dX5_laySets_155 : decode cX5_laySets 155 = .ok (.iconst 3, 1) := by decide +kernel
theorem dX5_laySets_156 : decode cX5_laySets 156 = .ok (.iaload, 1) := by decide +kernel
theorem dX5_laySets_157 : decode cX5_laySets 157 = .ok (.if_icmp .gt 7, 3) := by decide +kernel
theorem dX5_laySets_160 : decode cX5_laySets 160 = .ok (.iconst 1, 1) := by decide +kernel
theorem dX5_laySets_161 : decode cX5_laySets 161 = .ok (.goto 4, 3) := by decide +kernel
theorem dX5_laySets_164 : decode cX5_laySets 164 = .ok (.iconst 0, 1) := by decide +kernel
theorem dX5_laySets_165 : decode cX5_laySets 165 = .ok (.ireturn, 1) := by decide +kernel
theorem dX5_layChoices_0 : decode cX5_layChoices 0 = .ok (.aload_n 0, 1) := by decide +kernel
theorem dX5_layChoices_1 : decode cX5_layChoices 1 = .ok (.bipush (-9), 2) := by decide +kernel
theorem dX5_layChoices_3 : decode cX5_layChoices 3 = .ok (.putfield 157, 3) := by decide +kernel
theorem dX5_layChoices_6 : decode cX5_layChoices 6 = .ok (.aload_n 0, 1) := by decide +kernel
theorem dX5_layChoices_7 : decode cX5_layChoices 7 = .ok (.iconst 0, 1) := by decide +kernel
theorem dX5_layChoices_8 : decode cX5_layChoices 8 = .ok (.putfield 160, 3) := by decide +kernel
theorem dX5_layChoices_11 : decode cX5_layChoices 11 = .ok (.aload_n 0, 1) := by decide +kernel
theorem dX5_layChoices_12 : decode cX5_layChoices 12 = .ok (.iconst 0, 1) := by decide +kernel
theorem dX5_layChoices_13 : decode cX5_layChoices 13 = .ok (.putfield 163, 3) := by decide +kernel
theorem dX5_layChoices_16 : decode cX5_layChoices 16 = .ok (.iconst 0, 1) := by decide +kernel
theorem dX5_layChoices_17 : decode cX5_layChoices 17 = .ok (.istore_n 2, 1) := by decide +kernel
theorem dX5_layChoices_18 : decode cX5_layChoices 18 = .ok (.iload_n 2, 1) := by decide +kernel
theorem dX5_layChoices_19 : decode cX5_layChoices 19 = .ok (.sipush 256, 3) := by decide +kernel
theorem dX5_layChoices_22 : decode cX5_layChoices 22 = .ok (.if_icmp .ge 16, 3) := by decide +kernel
theorem dX5_layChoices_25 : decode cX5_layChoices 25 = .ok (.aload_n 0, 1) := by decide +kernel
theorem dX5_layChoices_26 : decode cX5_layChoices 26 = .ok (.getfield 40, 3) := by decide +kernel
theorem dX5_layChoices_29 : decode cX5_layChoices 29 = .ok (.iload_n 2, 1) := by decide +kernel
theorem dX5_layChoices_30 : decode cX5_layChoices 30 = .ok (.iconst 0, 1) := by decide +kernel
theorem dX5_layChoices_31 : decode cX5_layChoices 31 = .ok (.bastore, 1) := by decide +kernel
theorem dX5_layChoices_32 : decode cX5_layChoices 32 = .ok (.iinc 2 1, 3) := by decide +kernel
theorem dX5_layChoices_35 : decode cX5_layChoices 35 = .ok (.goto (-17), 3) := by decide +kernel
theorem dX5_layChoices_38 : decode cX5_layChoices 38 = .ok (.iconst 0, 1) := by decide +kernel
theorem dX5_layChoices_39 : decode cX5_layChoices 39 = .ok (.istore_n 2, 1) := by decide +kernel
theorem dX5_layChoices_40 : decode cX5_layChoices 40 = .ok (.iload_n 2, 1) := by decide +kernel
theorem dX5_layChoices_41 : decode cX5_layChoices 41 = .ok (.bipush 100, 2) := by decide +kernel
theorem dX5_layChoices_43 : decode cX5_layChoices 43 = .ok (.if_icmp .ge 16, 3) := by decide +kernel
theorem dX5_layChoices_46 : decode cX5_layChoices 46 = .ok (.aload_n 0, 1) := by decide +kernel
theorem dX5_layChoices_47 : decode cX5_layChoices 47 = .ok (.getfield 44, 3) := by decide +kernel
theorem dX5_layChoices_50 : decode cX5_layChoices 50 = .ok (.iload_n 2, 1) := by decide +kernel
theorem dX5_layChoices_51 : decode cX5_layChoices 51 = .ok (.iconst 0, 1) := by decide +kernel
theorem dX5_layChoices_52 : decode cX5_layChoices 52 = .ok (.iastore, 1) := by decide +kernel
theorem dX5_layChoices_53 : decode cX5_layChoices 53 = .ok (.iinc 2 1, 3) := by decide +kernel
theorem dX5_layChoices_56 : decode cX5_layChoices 56 = .ok (.goto (-16), 3) := by decide +kernel
theorem dX5_layChoices_59 : decode cX5_layChoices 59 = .ok (.iconst 1, 1) := by decide +kernel
theorem dX5_layChoices_60 : decode cX5_layChoices 60 = .ok (.istore_n 2, 1) := by decide +kernel
theorem dX5_layChoices_61 : decode cX5_layChoices 61 = .ok (.iload_n 2, 1) := by decide +kernel
theorem dX5_layChoices_62 : decode cX5_layChoices 62 = .ok (.iconst 1, 1) := by decide +kernel
theorem dX5_layChoices_63 : decode cX5_layChoices 63 = .ok (.iconst 2, 1) := by decide +kernel
theorem dX5_layChoices_64 : decode cX5_layChoices 64 = .ok (.aload_n 0, 1) := by decide +kernel
theorem dX5_layChoices_65 : decode cX5_layChoices 65 = .ok (.getfield 99, 3) := by decide +kernel
theorem dX5_layChoices_68 : decode cX5_layChoices 68 = .ok (.imul, 1) := by decide +kernel
theorem dX5_layChoices_69 : decode cX5_layChoices 69 = .ok (.ishl, 1) := by decide +kernel
theorem dX5_layChoices_70 : decode cX5_layChoices 70 = .ok (.if_icmp .ge 87, 3) := by decide +kernel
theorem dX5_layChoices_73 : decode cX5_layChoices 73 = .ok (.aload_n 0, 1) := by decide +kernel
theorem dX5_layChoices_74 : decode cX5_layChoices 74 = .ok (.iload_n 2, 1) := by decide +kernel
theorem dX5_layChoices_75 : decode cX5_layChoices 75 = .ok (.iload_n 1, 1) := by decide +kernel
theorem dX5_layChoices_76 : decode cX5_layChoices 76 = .ok (.invokevirtual 166, 3) := by decide +kernel
theorem dX5_layChoices_79 : decode cX5_layChoices 79 = .ok (.ifCond .eq 72, 3) := by decide +kernel
theorem dX5_layChoices_82 : decode cX5_layChoices 82 = .ok (.aload_n 0, 1) := by decide +kernel
theorem dX5_layChoices_83 : decode cX5_layChoices 83 = .ok (.getfield 37, 3) := by decide +kernel
theorem dX5_layChoices_86 : decode cX5_layChoices 86 = .ok (.iconst 0, 1) := by decide +kernel
theorem dX5_layChoices_87 : decode cX5_layChoices 87 = .ok (.iaload, 1) := by decide +kernel
theorem dX5_layChoices_88 : decode cX5_layChoices 88 = .ok (.aload_n 0, 1) := by decide +kernel
theorem dX5_layChoices_89 : decode cX5_layChoices 89 = .ok (.getfield 37, 3) := by decide +kernel
theorem dX5_layChoices_92 : decode cX5_layChoices 92 = .ok (.iconst 1, 1) := by decide +kernel
theorem dX5_layChoices_93 : decode cX5_layChoices 93 = .ok (.iaload, 1) := by decide +kernel
theorem dX5_layChoices_94 : decode cX5_layChoices 94 = .ok (.ior, 1) := by decide +kernel
theorem dX5_layChoices_95 : decode cX5_layChoices 95 = .ok (.aload_n 0, 1) := by decide +kernel
theorem dX5_layChoices_96 : decode cX5_layChoices 96 = .ok (.getfield 37, 3) := by decide +kernel
theorem dX5_layChoices_99 : decode cX5_layChoices 99 = .ok (.iconst 2, 1) := by decide +kernel
theorem dX5_layChoices_100 : decode cX5_layChoices 100 = .ok (.iaload, 1) := by decide +kernel
theorem dX5_layChoices_101 : decode cX5_layChoices 101 = .ok (.ior, 1) := by decide +kernel
theorem dX5_layChoices_102 : decode cX5_layChoices 102 = .ok (.istore_n 3, 1) := by decide +kernel
theorem dX5_layChoices_103 : decode cX5_layChoices 103 = .ok (.aload_n 0, 1) := by decide +kernel
theorem dX5_layChoices_104 : decode cX5_layChoices 104 = .ok (.aload_n 0, 1) := by decide +kernel
theorem dX5_layChoices_105 : decode cX5_layChoices 105 = .ok (.getfield 37, 3) := by decide +kernel
theorem dX5_layChoices_108 : decode cX5_layChoices 108 = .ok (.iconst 0, 1) := by decide +kernel
theorem dX5_layChoices_109 : decode cX5_layChoices 109 = .ok (.iaload, 1) := by decide +kernel
theorem dX5_layChoices_110 : decode cX5_layChoices 110 = .ok (.aload_n 0, 1) := by decide +kernel
theorem dX5_layChoices_111 : decode cX5_layChoices 111 = .ok (.getfield 37, 3) := by decide +kernel
theorem dX5_layChoices_114 : decode cX5_layChoices 114 = .ok (.iconst 1, 1) := by decide +kernel
theorem dX5_layChoices_115 : decode cX5_layChoices 115 = .ok (.iaload, 1) := by decide +kernel
theorem dX5_layChoices_116 : decode cX5_layChoices 116 = .ok (.aload_n 0, 1) := by decide +kernel
theorem dX5_layChoices_117 : decode cX5_layChoices 117 = .ok (.getfield 37, 3) := by decide +kernel
theorem dX5_layChoices_120 : decode cX5_layChoices 120 = .ok (.iconst 2, 1) := by decide +kernel
theorem dX5_layChoices_121 : decode cX5_layChoices 121 = .ok (.iaload, 1) := by decide +kernel
theorem dX5_layChoices_122 : decode cX5_layChoices 122 = .ok (.iconst 0, 1) := by decide +kernel
theorem dX5_layChoices_123 : decode cX5_layChoices 123 = .ok (.invokevirtual 150, 3) := by decide +kernel
theorem dX5_layChoices_126 : decode cX5_layChoices 126 = .ok (.ifCond .eq 16, 3) := by decide +kernel
theorem dX5_layChoices_129 : decode cX5_layChoices 129 = .ok (.aload_n 0, 1) := by decide +kernel
theorem dX5_layChoices_130 : decode cX5_layChoices 130 = .ok (.getfield 40, 3) := by decide +kernel
theorem dX5_layChoices_133 : decode cX5_layChoices 133 = .ok (.iload_n 3, 1) := by decide +kernel
theorem dX5_layChoices_134 : decode cX5_layChoices 134 = .ok (.iconst 1, 1) := by decide +kernel
theorem dX5_layChoices_135 : decode cX5_layChoices 135 = .ok (.bastore, 1) := by decide +kernel
theorem dX5_layChoices_136 : decode cX5_layChoices 136 = .ok (.aload_n 0, 1) := by decide +kernel
theorem dX5_layChoices_137 : decode cX5_layChoices 137 = .ok (.iload_n 3, 1) := by decide +kernel
theorem dX5_layChoices_138 : decode cX5_layChoices 138 = .ok (.iload_n 2, 1) := by decide +kernel
theorem dX5_layChoices_139 : decode cX5_layChoices 139 = .ok (.invokevirtual 169, 3) := by decide +kernel
theorem dX5_layChoices_142 : decode cX5_layChoices 142 = .ok (.aload_n 0, 1) := by decide +kernel
theorem dX5_layChoices_143 : decode cX5_layChoices 143 = .ok (.aload_n 0, 1) := by decide +kernel
theorem dX5_layChoices_144 : decode cX5_layChoices 144 = .ok (.iload_n 3, 1) := by decide +kernel
theorem dX5_layChoices_145 : decode cX5_layChoices 145 = .ok (.invokevirtual 154, 3) := by decide +kernel
theorem dX5_layChoices_148 : decode cX5_layChoices 148 = .ok (.invokevirtual 173, 3) := by decide +kernel
theorem dX5_layChoices_151 : decode cX5_layChoices 151 = .ok (.iinc 2 1, 3) := by decide +kernel
theorem dX5_layChoices_154 : decode cX5_layChoices 154 = .ok (.goto (-93), 3) := by decide +kernel
theorem dX5_layChoices_157 : decode cX5_layChoices 157 = .ok (.return_, 1) := by decide +kernel
theorem dX5_better_0 : decode cX5_better 0 = .ok (.aload_n 0, 1) := by decide +kernel
theorem dX5_better_1 : decode cX5_better 1 = .ok (.iload_n 1, 1) := by decide +kernel
theorem dX5_better_2 : decode cX5_better 2 = .ok (.invokevirtual 154, 3) := by decide +kernel
theorem dX5_better_5 : decode cX5_better 5 = .ok (.istore_n 3, 1) := by decide +kernel
theorem dX5_better_6 : decode cX5_better 6 = .ok (.iload_n 1, 1) := by decide +kernel
theorem dX5_better_7 : decode cX5_better 7 = .ok (.invokestatic 128, 3) := by decide +kernel
theorem dX5_better_10 : decode cX5_better 10 = .ok (.istore 4, 2) := by decide +kernel
theorem dX5_better_12 : decode cX5_better 12 = .ok (.iload_n 3, 1) := by decide +kernel
theorem dX5_better_13 : decode cX5_better 13 = .ok (.aload_n 0, 1) := by decide +kernel
theorem dX5_better_14 : decode cX5_better 14 = .ok (.getfield 157, 3) := by decide +kernel
theorem dX5_better_17 : decode cX5_better 17 = .ok (.if_icmp .gt 20, 3) := by decide +kernel
theorem dX5_better_20 : decode cX5_better 20 = .ok (.iload_n 3, 1) := by decide +kernel
theorem dX5_better_21 : decode cX5_better 21 = .ok (.aload_n 0, 1) := by decide +kernel
theorem dX5_better_22 : decode cX5_better 22 = .ok (.getfield 157, 3) := by decide +kernel
theorem dX5_better_25 : decode cX5_better 25 = .ok (.if_icmp .ne 28, 3) := by decide +kernel
theorem dX5_better_28 : decode cX5_better 28 = .ok (.iload 4, 2) := by decide +kernel
theorem dX5_better_30 : decode cX5_better 30 = .ok (.aload_n 0, 1) := by decide +kernel
theorem dX5_better_31 : decode cX5_better 31 = .ok (.getfield 160, 3) := by decide +kernel
theorem dX5_better_34 : decode cX5_better 34 = .ok (.if_icmp .le 19, 3) := by decide +kernel
theorem dX5_better_37 : decode cX5_better 37 = .ok (.aload_n 0, 1) := by decide +kernel
theorem dX5_better_38 : decode cX5_better 38 = .ok (.iload_n 3, 1) := by decide +kernel
theorem dX5_better_39 : decode cX5_better 39 = .ok (.putfield 157, 3) := by decide +kernel
theorem dX5_better_42 : decode cX5_better 42 = .ok (.aload_n 0, 1) := by decide +kernel
theorem dX5_better_43 : decode cX5_better 43 = .ok (.iload 4, 2) := by decide +kernel
theorem dX5_better_45 : decode cX5_better 45 = .ok (.putfield 160, 3) := by decide +kernel
theorem dX5_better_48 : decode cX5_better 48 = .ok (.aload_n 0, 1) := by decide +kernel
theorem dX5_better_49 : decode cX5_better 49 = .ok (.iload_n 2, 1) := by decide +kernel
theorem dX5_better_50 : decode cX5_better 50 = .ok (.putfield 163, 3) := by decide +kernel
theorem dX5_better_53 : decode cX5_better 53 = .ok (.return_, 1) := by decide +kernel
theorem dX5_layMakes_0 : decode cX5_layMakes 0 = .ok (.iconst 0, 1) := by decide +kernel
theorem dX5_layMakes_1 : decode cX5_layMakes 1 = .ok (.istore_n 2, 1) := by decide +kernel
theorem dX5_layMakes_2 : decode cX5_layMakes 2 = .ok (.iload_n 2, 1) := by decide +kernel
theorem dX5_layMakes_3 : decode cX5_layMakes 3 = .ok (.aload_n 0, 1) := by decide +kernel
theorem dX5_layMakes_4 : decode cX5_layMakes 4 = .ok (.getfield 16, 3) := by decide +kernel
theorem dX5_layMakes_7 : decode cX5_layMakes 7 = .ok (.iconst 0, 1) := by decide +kernel
theorem dX5_layMakes_8 : decode cX5_layMakes 8 = .ok (.iaload, 1) := by decide +kernel
theorem dX5_layMakes_9 : decode cX5_layMakes 9 = .ok (.if_icmp .ge 89, 3) := by decide +kernel
theorem dX5_layMakes_12 : decode cX5_layMakes 12 = .ok (.aload_n 0, 1) := by decide +kernel
theorem dX5_layMakes_13 : decode cX5_layMakes 13 = .ok (.getfield 37, 3) := by decide +kernel
theorem dX5_layMakes_16 : decode cX5_layMakes 16 = .ok (.iload_n 2, 1) := by decide +kernel
theorem dX5_layMakes_17 : decode cX5_layMakes 17 = .ok (.iaload, 1) := by decide +kernel
theorem dX5_layMakes_18 : decode cX5_layMakes 18 = .ok (.invokestatic 128, 3) := by decide +kernel
theorem dX5_layMakes_21 : decode cX5_layMakes 21 = .ok (.aload_n 0, 1) := by decide +kernel
theorem dX5_layMakes_22 : decode cX5_layMakes 22 = .ok (.getfield 16, 3) := by decide +kernel
theorem dX5_layMakes_25 : decode cX5_layMakes 25 = .ok (.iconst 3, 1) := by decide +kernel
theorem dX5_layMakes_26 : decode cX5_layMakes 26 = .ok (.iaload, 1) := by decide +kernel
theorem dX5_layMakes_27 : decode cX5_layMakes 27 = .ok (.if_icmp .ge 12, 3) := by decide +kernel
theorem dX5_layMakes_30 : decode cX5_layMakes 30 = .ok (.aload_n 0, 1) := by decide +kernel
theorem dX5_layMakes_31 : decode cX5_layMakes 31 = .ok (.iload_n 2, 1) := by decide +kernel
theorem dX5_layMakes_32 : decode cX5_layMakes 32 = .ok (.iconst 0, 1) := by decide +kernel
theorem dX5_layMakes_33 : decode cX5_layMakes 33 = .ok (.invokevirtual 177, 3) := by decide +kernel
theorem dX5_layMakes_36 : decode cX5_layMakes 36 = .ok (.goto 4, 3) := by decide +kernel
theorem dX5_layMakes_39 : decode cX5_layMakes 39 = .ok (.iconst 0, 1) := by decide +kernel
theorem dX5_layMakes_40 : decode cX5_layMakes 40 = .ok (.istore_n 3, 1) := by decide +kernel
theorem dX5_layMakes_41 : decode cX5_layMakes 41 = .ok (.iload_n 3, 1) := by decide +kernel
theorem dX5_layMakes_42 : decode cX5_layMakes 42 = .ok (.i2l, 1) := by decide +kernel
theorem dX5_layMakes_43 : decode cX5_layMakes 43 = .ok (.lconst 1, 1) := by decide +kernel
theorem dX5_layMakes_44 : decode cX5_layMakes 44 = .ok (.ldc2_w 181, 3) := by decide +kernel
theorem dX5_layMakes_47 : decode cX5_layMakes 47 = .ok (.invokestatic 70, 3) := by decide +kernel
theorem dX5_layMakes_50 : decode cX5_layMakes 50 = .ok (.ifCond .eq 42, 3) := by decide +kernel
theorem dX5_layMakes_53 : decode cX5_layMakes 53 = .ok (.iload_n 3, 1) := by decide +kernel
theorem dX5_layMakes_54 : decode cX5_layMakes 54 = .ok (.aload_n 0, 1) := by decide +kernel
theorem dX5_layMakes_55 : decode cX5_layMakes 55 = .ok (.iload_n 2, 1) := by decide +kernel
theorem dX5_layMakes_56 : decode cX5_layMakes 56 = .ok (.aload_n 0, 1) := by decide +kernel
theorem dX5_layMakes_57 : decode cX5_layMakes 57 = .ok (.getfield 102, 3) := by decide +kernel
theorem dX5_layMakes_60 : decode cX5_layMakes 60 = .ok (.invokevirtual 177, 3) := by decide +kernel
theorem dX5_layMakes_63 : decode cX5_layMakes 63 = .ok (.if_icmp .ne 29, 3) := by decide +kernel
theorem dX5_layMakes_66 : decode cX5_layMakes 66 = .ok (.aload_n 0, 1) := by decide +kernel
theorem dX5_layMakes_67 : decode cX5_layMakes 67 = .ok (.getfield 44, 3) := by decide +kernel
theorem dX5_layMakes_70 : decode cX5_layMakes 70 = .ok (.iload_n 3, 1) := by decide +kernel
theorem dX5_layMakes_71 : decode cX5_layMakes 71 = .ok (.iload_n 1, 1) := by decide +kernel
theorem dX5_layMakes_72 : decode cX5_layMakes 72 = .ok (.aload_n 0, 1) := by decide +kernel
theorem dX5_layMakes_73 : decode cX5_layMakes 73 = .ok (.getfield 44, 3) := by decide +kernel
theorem dX5_layMakes_76 : decode cX5_layMakes 76 = .ok (.iload_n 3, 1) := by decide +kernel
theorem dX5_layMakes_77 : decode cX5_layMakes 77 = .ok (.iaload, 1) := by decide +kernel
theorem dX5_layMakes_78 : decode cX5_layMakes 78 = .ok (.if_icmp .le 7, 3) := by decide +kernel
theorem dX5_layMakes_81 : decode cX5_layMakes 81 = .ok (.iload_n 1, 1) := by decide +kernel
theorem dX5_layMakes_82 : decode cX5_layMakes 82 = .ok (.goto 9, 3) := by decide +kernel
theorem dX5_layMakes_85 : decode cX5_layMakes 85 = .ok (.aload_n 0, 1) := by decide +kernel
theorem dX5_layMakes_86 : decode cX5_layMakes 86 = .ok (.getfield 44, 3) := by decide +kernel
theorem dX5_layMakes_89 : decode cX5_layMakes 89 = .ok (.iload_n 3, 1) := by decide +kernel
theorem dX5_layMakes_90 : decode cX5_layMakes 90 = .ok (.iaload, 1) := by decide +kernel
theorem dX5_layMakes_91 : decode cX5_layMakes 91 = .ok (.iastore, 1) := by decide +kernel
theorem dX5_layMakes_92 : decode cX5_layMakes 92 = .ok (.iinc 2 1, 3) := by decide +kernel
theorem dX5_layMakes_95 : decode cX5_layMakes 95 = .ok (.goto (-93), 3) := by decide +kernel
theorem dX5_layMakes_98 : decode cX5_layMakes 98 = .ok (.return_, 1) := by decide +kernel
theorem dX5_lacks_0 : decode cX5_lacks 0 = .ok (.aload_n 0, 1) := by decide +kernel
theorem dX5_lacks_1 : decode cX5_lacks 1 = .ok (.aload_n 0, 1) := by decide +kernel
theorem dX5_lacks_2 : decode cX5_lacks 2 = .ok (.getfield 37, 3) := by decide +kernel
theorem dX5_lacks_5 : decode cX5_lacks 5 = .ok (.iconst 0, 1) := by decide +kernel
theorem dX5_lacks_6 : decode cX5_lacks 6 = .ok (.iaload, 1) := by decide +kernel
theorem dX5_lacks_7 : decode cX5_lacks 7 = .ok (.iconst 0, 1) := by decide +kernel
theorem dX5_lacks_8 : decode cX5_lacks 8 = .ok (.iload_n 2, 1) := by decide +kernel
theorem dX5_lacks_9 : decode cX5_lacks 9 = .ok (.iconst 0, 1) := by decide +kernel
theorem dX5_lacks_10 : decode cX5_lacks 10 = .ok (.invokevirtual 138, 3) := by decide +kernel
theorem dX5_lacks_13 : decode cX5_lacks 13 = .ok (.istore_n 3, 1) := by decide +kernel
theorem dX5_lacks_14 : decode cX5_lacks 14 = .ok (.aload_n 0, 1) := by decide +kernel
theorem dX5_lacks_15 : decode cX5_lacks 15 = .ok (.aload_n 0, 1) := by decide +kernel
theorem dX5_lacks_16 : decode cX5_lacks 16 = .ok (.getfield 37, 3) := by decide +kernel
theorem dX5_lacks_19 : decode cX5_lacks 19 = .ok (.iconst 1, 1) := by decide +kernel
theorem dX5_lacks_20 : decode cX5_lacks 20 = .ok (.iaload, 1) := by decide +kernel
theorem dX5_lacks_21 : decode cX5_lacks 21 = .ok (.iconst 1, 1) := by decide +kernel
theorem dX5_lacks_22 : decode cX5_lacks 22 = .ok (.iload_n 2, 1) := by decide +kernel
theorem dX5_lacks_23 : decode cX5_lacks 23 = .ok (.iconst 0, 1) := by decide +kernel
theorem dX5_lacks_24 : decode cX5_lacks 24 = .ok (.invokevirtual 138, 3) := by decide +kernel
theorem dX5_lacks_27 : decode cX5_lacks 27 = .ok (.istore 4, 2) := by decide +kernel
theorem dX5_lacks_29 : decode cX5_lacks 29 = .ok (.aload_n 0, 1) := by decide +kernel
theorem dX5_lacks_30 : decode cX5_lacks 30 = .ok (.aload_n 0, 1) := by decide +kernel
theorem dX5_lacks_31 : decode cX5_lacks 31 = .ok (.getfield 37, 3) := by decide +kernel
theorem dX5_lacks_34 : decode cX5_lacks 34 = .ok (.iconst 2, 1) := by decide +kernel
theorem dX5_lacks_35 : decode cX5_lacks 35 = .ok (.iaload, 1) := by decide +kernel
theorem dX5_lacks_36 : decode cX5_lacks 36 = .ok (.iconst 2, 1) := by decide +kernel
theorem dX5_lacks_37 : decode cX5_lacks 37 = .ok (.iload_n 2, 1) := by decide +kernel
theorem dX5_lacks_38 : decode cX5_lacks 38 = .ok (.iconst 0, 1) := by decide +kernel
theorem dX5_lacks_39 : decode cX5_lacks 39 = .ok (.invokevirtual 138, 3) := by decide +kernel
theorem dX5_lacks_42 : decode cX5_lacks 42 = .ok (.istore 5, 2) := by decide +kernel
theorem dX5_lacks_44 : decode cX5_lacks 44 = .ok (.aload_n 0, 1) := by decide +kernel
theorem dX5_lacks_45 : decode cX5_lacks 45 = .ok (.getfield 16, 3) := by decide +kernel
theorem dX5_lacks_48 : decode cX5_lacks 48 = .ok (.iconst 0, 1) := by decide +kernel
theorem dX5_lacks_49 : decode cX5_lacks 49 = .ok (.iaload, 1) := by decide +kernel
theorem dX5_lacks_50 : decode cX5_lacks 50 = .ok (.iconst 2, 1) := by decide +kernel
theorem dX5_lacks_51 : decode cX5_lacks 51 = .ok (.if_icmp .ne 81, 3) := by decide +kernel
theorem dX5_lacks_54 : decode cX5_lacks 54 = .ok (.aload_n 0, 1) := by decide +kernel
theorem dX5_lacks_55 : decode cX5_lacks 55 = .ok (.getfield 16, 3) := by decide +kernel
theorem dX5_lacks_58 : decode cX5_lacks 58 = .ok (.iconst 1, 1) := by decide +kernel
theorem dX5_lacks_59 : decode cX5_lacks 59 = .ok (.iload_n 1, 1) := by decide +kernel
theorem dX5_lacks_60 : decode cX5_lacks 60 = .ok (.iadd, 1) := by decide +kernel
theorem dX5_lacks_61 : decode cX5_lacks 61 = .ok (.iaload, 1) := by decide +kernel
theorem dX5_lacks_62 : decode cX5_lacks 62 = .ok (.istore 6, 2) := by decide +kernel
theorem dX5_lacks_64 : decode cX5_lacks 64 = .ok (.iload_n 1, 1) := by decide +kernel
theorem dX5_lacks_65 : decode cX5_lacks 65 = .ok (.ifCond .ne 24, 3) := by decide +kernel
theorem dX5_lacks_68 : decode cX5_lacks 68 = .ok (.aload_n 0, 1) := by decide +kernel
theorem dX5_lacks_69 : decode cX5_lacks 69 = .ok (.getfield 16, 3) := by decide +kernel
theorem dX5_lacks_72 : decode cX5_lacks 72 = .ok (.iconst 2, 1) := by decide +kernel
theorem dX5_lacks_73 : decode cX5_lacks 73 = .ok (.iaload, 1) := by decide +kernel
theorem dX5_lacks_74 : decode cX5_lacks 74 = .ok (.iload 4, 2) := by decide +kernel
theorem dX5_lacks_76 : decode cX5_lacks 76 = .ok (.imul, 1) := by decide +kernel
theorem dX5_lacks_77 : decode cX5_lacks 77 = .ok (.aload_n 0, 1) := by decide +kernel
theorem dX5_lacks_78 : decode cX5_lacks 78 = .ok (.getfield 16, 3) := by decide +kernel
theorem dX5_lacks_81 : decode cX5_lacks 81 = .ok (.iconst 1, 1) := by decide +kernel
theorem dX5_lacks_82 : decode cX5_lacks 82 = .ok (.iaload, 1) := by decide +kernel
theorem dX5_lacks_83 : decode cX5_lacks 83 = .ok (.iload_n 3, 1) := by decide +kernel
theorem dX5_lacks_84 : decode cX5_lacks 84 = .ok (.imul, 1) := by decide +kernel
theorem dX5_lacks_85 : decode cX5_lacks 85 = .ok (.isub, 1) := by decide +kernel
theorem dX5_lacks_86 : decode cX5_lacks 86 = .ok (.goto 21, 3) := by decide +kernel
theorem dX5_lacks_89 : decode cX5_lacks 89 = .ok (.aload_n 0, 1) := by decide +kernel
theorem dX5_lacks_90 : decode cX5_lacks 90 = .ok (.getfield 16, 3) := by decide +kernel
theorem dX5_lacks_93 : decode cX5_lacks 93 = .ok (.iconst 1, 1) := by decide +kernel
theorem dX5_lacks_94 : decode cX5_lacks 94 = .ok (.iaload, 1) := by decide +kernel
theorem dX5_lacks_95 : decode cX5_lacks 95 = .ok (.iload_n 3, 1) := by decide +kernel
theorem dX5_lacks_96 : decode cX5_lacks 96 = .ok (.imul, 1) := by decide +kernel
theorem dX5_lacks_97 : decode cX5_lacks 97 = .ok (.aload_n 0, 1) := by decide +kernel
theorem dX5_lacks_98 : decode cX5_lacks 98 = .ok (.getfield 16, 3) := by decide +kernel
theorem dX5_lacks_101 : decode cX5_lacks 101 = .ok (.iconst 2, 1) := by decide +kernel
theorem dX5_lacks_102 : decode cX5_lacks 102 = .ok (.iaload, 1) := by decide +kernel
theorem dX5_lacks_103 : decode cX5_lacks 103 = .ok (.iload 4, 2) := by decide +kernel
theorem dX5_lacks_105 : decode cX5_lacks 105 = .ok (.imul, 1) := by decide +kernel
theorem dX5_lacks_106 : decode cX5_lacks 106 = .ok (.isub, 1) := by decide +kernel
theorem dX5_lacks_107 : decode cX5_lacks 107 = .ok (.istore 7, 2) := by decide +kernel
theorem dX5_lacks_109 : decode cX5_lacks 109 = .ok (.iload 7, 2) := by decide +kernel
theorem dX5_lacks_111 : decode cX5_lacks 111 = .ok (.ifCond .le 19, 3) := by decide +kernel
theorem dX5_lacks_114 : decode cX5_lacks 114 = .ok (.iload 7, 2) := by decide +kernel
theorem dX5_lacks_116 : decode cX5_lacks 116 = .ok (.iload 6, 2) := by decide +kernel
theorem dX5_lacks_118 : decode cX5_lacks 118 = .ok (.irem, 1) := by decide +kernel
theorem dX5_lacks_119 : decode cX5_lacks 119 = .ok (.ifCond .ne 11, 3) := by decide +kernel
theorem dX5_lacks_122 : decode cX5_lacks 122 = .ok (.iload 7, 2) := by decide +kernel
theorem dX5_lacks_124 : decode cX5_lacks 124 = .ok (.iload 6, 2) := by decide +kernel
theorem dX5_lacks_126 : decode cX5_lacks 126 = .ok (.idiv, 1) := by decide +kernel
theorem dX5_lacks_127 : decode cX5_lacks 127 = .ok (.goto 4, 3) := by decide +kernel
theorem dX5_lacks_130 : decode cX5_lacks 130 = .ok (.iconst 0, 1) := by decide +kernel
theorem dX5_lacks_131 : decode cX5_lacks 131 = .ok (.ireturn, 1) := by decide +kernel
theorem dX5_lacks_132 : decode cX5_lacks 132 = .ok (.iload_n 1, 1) := by decide +kernel
theorem dX5_lacks_133 : decode cX5_lacks 133 = .ok (.ifCond .ne 7, 3) := by decide +kernel
theorem dX5_lacks_136 : decode cX5_lacks 136 = .ok (.iload_n 3, 1) := by decide +kernel
theorem dX5_lacks_137 : decode cX5_lacks 137 = .ok (.goto 15, 3) := by decide +kernel
theorem dX5_lacks_140 : decode cX5_lacks 140 = .ok (.iload_n 1, 1) := by decide +kernel
theorem dX5_lacks_141 : decode cX5_lacks 141 = .ok (.iconst 1, 1) := by decide +kernel
theorem dX5_lacks_142 : decode cX5_lacks 142 = .ok (.if_icmp .ne 8, 3) := by decide +kernel
theorem dX5_lacks_145 : decode cX5_lacks 145 = .ok (.iload 4, 2) := by decide +kernel
theorem dX5_lacks_147 : decode cX5_lacks 147 = .ok (.goto 5, 3) := by decide +kernel
theorem dX5_lacks_150 : decode cX5_lacks 150 = .ok (.iload 5, 2) := by decide +kernel
theorem dX5_lacks_152 : decode cX5_lacks 152 = .ok (.istore 6, 2) := by decide +kernel
theorem dX5_lacks_154 : decode cX5_lacks 154 = .ok (.iload_n 1, 1) := by decide +kernel
theorem dX5_lacks_155 : decode cX5_lacks 155 = .ok (.ifCond .ne 8, 3) := by decide +kernel
theorem dX5_lacks_158 : decode cX5_lacks 158 = .ok (.iload 4, 2) := by decide +kernel
theorem dX5_lacks_160 : decode cX5_lacks 160 = .ok (.goto 4, 3) := by decide +kernel
theorem dX5_lacks_163 : decode cX5_lacks 163 = .ok (.iload_n 3, 1) := by decide +kernel
theorem dX5_lacks_164 : decode cX5_lacks 164 = .ok (.istore 7, 2) := by decide +kernel
theorem dX5_lacks_166 : decode cX5_lacks 166 = .ok (.iload_n 1, 1) := by decide +kernel
theorem dX5_lacks_167 : decode cX5_lacks 167 = .ok (.iconst 2, 1) := by decide +kernel
theorem dX5_lacks_168 : decode cX5_lacks 168 = .ok (.if_icmp .ne 8, 3) := by decide +kernel
theorem dX5_lacks_171 : decode cX5_lacks 171 = .ok (.iload 4, 2) := by decide +kernel
theorem dX5_lacks_173 : decode cX5_lacks 173 = .ok (.goto 5, 3) := by decide +kernel
theorem dX5_lacks_176 : decode cX5_lacks 176 = .ok (.iload 5, 2) := by decide +kernel
theorem dX5_lacks_178 : decode cX5_lacks 178 = .ok (.istore 8, 2) := by decide +kernel
theorem dX5_lacks_180 : decode cX5_lacks 180 = .ok (.iload 7, 2) := by decide +kernel
theorem dX5_lacks_182 : decode cX5_lacks 182 = .ok (.iload 8, 2) := by decide +kernel
theorem dX5_lacks_184 : decode cX5_lacks 184 = .ok (.if_icmp .ne 18, 3) := by decide +kernel
theorem dX5_lacks_187 : decode cX5_lacks 187 = .ok (.iload 7, 2) := by decide +kernel
theorem dX5_lacks_189 : decode cX5_lacks 189 = .ok (.iload 6, 2) := by decide +kernel
theorem dX5_lacks_191 : decode cX5_lacks 191 = .ok (.if_icmp .le 11, 3) := by decide +kernel
theorem dX5_lacks_194 : decode cX5_lacks 194 = .ok (.iload 7, 2) := by decide +kernel
theorem dX5_lacks_196 : decode cX5_lacks 196 = .ok (.iload 6, 2) := by decide +kernel
theorem dX5_lacks_198 : decode cX5_lacks 198 = .ok (.isub, 1) := by decide +kernel
theorem dX5_lacks_199 : decode cX5_lacks 199 = .ok (.goto 4, 3) := by decide +kernel
theorem dX5_lacks_202 : decode cX5_lacks 202 = .ok (.iconst 0, 1) := by decide +kernel
theorem dX5_lacks_203 : decode cX5_lacks 203 = .ok (.ireturn, 1) := by decide +kernel
theorem dX5_waiting_0 : decode cX5_waiting 0 = .ok (.iconst 1, 1) := by decide +kernel
theorem dX5_waiting_1 : decode cX5_waiting 1 = .ok (.aload_n 0, 1) := by decide +kernel
theorem dX5_waiting_2 : decode cX5_waiting 2 = .ok (.getfield 99, 3) := by decide +kernel
theorem dX5_waiting_5 : decode cX5_waiting 5 = .ok (.ishl, 1) := by decide +kernel
theorem dX5_waiting_6 : decode cX5_waiting 6 = .ok (.iconst 1, 1) := by decide +kernel
theorem dX5_waiting_7 : decode cX5_waiting 7 = .ok (.isub, 1) := by decide +kernel
theorem dX5_waiting_8 : decode cX5_waiting 8 = .ok (.aload_n 0, 1) := by decide +kernel
theorem dX5_waiting_9 : decode cX5_waiting 9 = .ok (.bipush 20, 2) := by decide +kernel
theorem dX5_waiting_11 : decode cX5_waiting 11 = .ok (.invokevirtual 125, 3) := by decide +kernel
theorem dX5_waiting_14 : decode cX5_waiting 14 = .ok (.iconst (-1), 1) := by decide +kernel
theorem dX5_waiting_15 : decode cX5_waiting 15 = .ok (.ixor, 1) := by decide +kernel
theorem dX5_waiting_16 : decode cX5_waiting 16 = .ok (.iand, 1) := by decide +kernel
theorem dX5_waiting_17 : decode cX5_waiting 17 = .ok (.ireturn, 1) := by decide +kernel
theorem dX5_best_0 : decode cX5_best 0 = .ok (.aload_n 0, 1) := by decide +kernel
theorem dX5_best_1 : decode cX5_best 1 = .ok (.aload_n 0, 1) := by decide +kernel
theorem dX5_best_2 : decode cX5_best 2 = .ok (.invokevirtual 183, 3) := by decide +kernel
theorem dX5_best_5 : decode cX5_best 5 = .ok (.invokevirtual 186, 3) := by decide +kernel
theorem dX5_best_8 : decode cX5_best 8 = .ok (.aload_n 0, 1) := by decide +kernel
theorem dX5_best_9 : decode cX5_best 9 = .ok (.getfield 157, 3) := by decide +kernel
theorem dX5_best_12 : decode cX5_best 12 = .ok (.ireturn, 1) := by decide +kernel
theorem dX5_bestAt_0 : decode cX5_bestAt 0 = .ok (.aload_n 0, 1) := by decide +kernel
theorem dX5_bestAt_1 : decode cX5_bestAt 1 = .ok (.iload_n 1, 1) := by decide +kernel
theorem dX5_bestAt_2 : decode cX5_bestAt 2 = .ok (.invokevirtual 110, 3) := by decide +kernel
theorem dX5_bestAt_5 : decode cX5_bestAt 5 = .ok (.ifCond .ne 5, 3) := by decide +kernel
theorem dX5_bestAt_8 : decode cX5_bestAt 8 = .ok (.iconst (-1), 1) := by decide +kernel
theorem dX5_bestAt_9 : decode cX5_bestAt 9 = .ok (.ireturn, 1) := by decide +kernel
theorem dX5_bestAt_10 : decode cX5_bestAt 10 = .ok (.aload_n 0, 1) := by decide +kernel
theorem dX5_bestAt_11 : decode cX5_bestAt 11 = .ok (.aload_n 0, 1) := by decide +kernel
theorem dX5_bestAt_12 : decode cX5_bestAt 12 = .ok (.invokevirtual 183, 3) := by decide +kernel
theorem dX5_bestAt_15 : decode cX5_bestAt 15 = .ok (.invokevirtual 186, 3) := by decide +kernel
theorem dX5_bestAt_18 : decode cX5_bestAt 18 = .ok (.aload_n 0, 1) := by decide +kernel
theorem dX5_bestAt_19 : decode cX5_bestAt 19 = .ok (.getfield 163, 3) := by decide +kernel
theorem dX5_bestAt_22 : decode cX5_bestAt 22 = .ok (.iconst 2, 1) := by decide +kernel
theorem dX5_bestAt_23 : decode cX5_bestAt 23 = .ok (.aload_n 0, 1) := by decide +kernel
theorem dX5_bestAt_24 : decode cX5_bestAt 24 = .ok (.getfield 99, 3) := by decide +kernel
theorem dX5_bestAt_27 : decode cX5_bestAt 27 = .ok (.iconst 1, 1) := by decide +kernel
theorem dX5_bestAt_28 : decode cX5_bestAt 28 = .ok (.isub, 1) := by decide +kernel
theorem dX5_bestAt_29 : decode cX5_bestAt 29 = .ok (.iload_n 1, 1) := by decide +kernel
theorem dX5_bestAt_30 : decode cX5_bestAt 30 = .ok (.isub, 1) := by decide +kernel
theorem dX5_bestAt_31 : decode cX5_bestAt 31 = .ok (.imul, 1) := by decide +kernel
theorem dX5_bestAt_32 : decode cX5_bestAt 32 = .ok (.ishr, 1) := by decide +kernel
theorem dX5_bestAt_33 : decode cX5_bestAt 33 = .ok (.iconst 3, 1) := by decide +kernel
theorem dX5_bestAt_34 : decode cX5_bestAt 34 = .ok (.iand, 1) := by decide +kernel
theorem dX5_bestAt_35 : decode cX5_bestAt 35 = .ok (.iconst 1, 1) := by decide +kernel
theorem dX5_bestAt_36 : decode cX5_bestAt 36 = .ok (.isub, 1) := by decide +kernel
theorem dX5_bestAt_37 : decode cX5_bestAt 37 = .ok (.istore_n 2, 1) := by decide +kernel
theorem dX5_bestAt_38 : decode cX5_bestAt 38 = .ok (.iload_n 2, 1) := by decide +kernel
theorem dX5_bestAt_39 : decode cX5_bestAt 39 = .ok (.ifCond .ge 8, 3) := by decide +kernel
theorem dX5_bestAt_42 : decode cX5_bestAt 42 = .ok (.bipush (-9), 2) := by decide +kernel
theorem dX5_bestAt_44 : decode cX5_bestAt 44 = .ok (.goto 4, 3) := by decide +kernel
theorem dX5_bestAt_47 : decode cX5_bestAt 47 = .ok (.iload_n 2, 1) := by decide +kernel
theorem dX5_bestAt_48 : decode cX5_bestAt 48 = .ok (.ireturn, 1) := by decide +kernel
theorem dX5_mostOf_0 : decode cX5_mostOf 0 = .ok (.aload_n 0, 1) := by decide +kernel
theorem dX5_mostOf_1 : decode cX5_mostOf 1 = .ok (.iload_n 1, 1) := by decide +kernel
theorem dX5_mostOf_2 : decode cX5_mostOf 2 = .ok (.invokevirtual 186, 3) := by decide +kernel
theorem dX5_mostOf_5 : decode cX5_mostOf 5 = .ok (.aload_n 0, 1) := by decide +kernel
theorem dX5_mostOf_6 : decode cX5_mostOf 6 = .ok (.getfield 157, 3) := by decide +kernel
theorem dX5_mostOf_9 : decode cX5_mostOf 9 = .ok (.ifCond .ge 7, 3) := by decide +kernel
theorem dX5_mostOf_12 : decode cX5_mostOf 12 = .ok (.iconst 0, 1) := by decide +kernel
theorem dX5_mostOf_13 : decode cX5_mostOf 13 = .ok (.goto 7, 3) := by decide +kernel
theorem dX5_mostOf_16 : decode cX5_mostOf 16 = .ok (.aload_n 0, 1) := by decide +kernel
theorem dX5_mostOf_17 : decode cX5_mostOf 17 = .ok (.getfield 157, 3) := by decide +kernel
theorem dX5_mostOf_20 : decode cX5_mostOf 20 = .ok (.ireturn, 1) := by decide +kernel
theorem dX5_worth_0 : decode cX5_worth 0 = .ok (.aload_n 0, 1) := by decide +kernel
theorem dX5_worth_1 : decode cX5_worth 1 = .ok (.iload_n 1, 1) := by decide +kernel
theorem dX5_worth_2 : decode cX5_worth 2 = .ok (.invokevirtual 110, 3) := by decide +kernel
theorem dX5_worth_5 : decode cX5_worth 5 = .ok (.ifCond .ne 5, 3) := by decide +kernel
theorem dX5_worth_8 : decode cX5_worth 8 = .ok (.iconst (-1), 1) := by decide +kernel
theorem dX5_worth_9 : decode cX5_worth 9 = .ok (.ireturn, 1) := by decide +kernel
theorem dX5_worth_10 : decode cX5_worth 10 = .ok (.aload_n 0, 1) := by decide +kernel
theorem dX5_worth_11 : decode cX5_worth 11 = .ok (.getfield 28, 3) := by decide +kernel
theorem dX5_worth_14 : decode cX5_worth 14 = .ok (.iload_n 1, 1) := by decide +kernel
theorem dX5_worth_15 : decode cX5_worth 15 = .ok (.iaload, 1) := by decide +kernel
theorem dX5_worth_16 : decode cX5_worth 16 = .ok (.bipush 20, 2) := by decide +kernel
theorem dX5_worth_18 : decode cX5_worth 18 = .ok (.if_icmp .ne 6, 3) := by decide +kernel
theorem dX5_worth_21 : decode cX5_worth 21 = .ok (.bipush (-3), 2) := by decide +kernel
theorem dX5_worth_23 : decode cX5_worth 23 = .ok (.ireturn, 1) := by decide +kernel
theorem dX5_worth_24 : decode cX5_worth 24 = .ok (.aload_n 0, 1) := by decide +kernel
theorem dX5_worth_25 : decode cX5_worth 25 = .ok (.aload_n 0, 1) := by decide +kernel
theorem dX5_worth_26 : decode cX5_worth 26 = .ok (.invokevirtual 183, 3) := by decide +kernel
theorem dX5_worth_29 : decode cX5_worth 29 = .ok (.invokevirtual 189, 3) := by decide +kernel
theorem dX5_worth_32 : decode cX5_worth 32 = .ok (.aload_n 0, 1) := by decide +kernel
theorem dX5_worth_33 : decode cX5_worth 33 = .ok (.aload_n 0, 1) := by decide +kernel
theorem dX5_worth_34 : decode cX5_worth 34 = .ok (.invokevirtual 183, 3) := by decide +kernel
theorem dX5_worth_37 : decode cX5_worth 37 = .ok (.iconst 1, 1) := by decide +kernel
theorem dX5_worth_38 : decode cX5_worth 38 = .ok (.iload_n 1, 1) := by decide +kernel
theorem dX5_worth_39 : decode cX5_worth 39 = .ok (.ishl, 1) := by decide +kernel
theorem dX5_worth_40 : decode cX5_worth 40 = .ok (.iconst (-1), 1) := by decide +kernel
theorem dX5_worth_41 : decode cX5_worth 41 = .ok (.ixor, 1) := by decide +kernel
theorem dX5_worth_42 : decode cX5_worth 42 = .ok (.iand, 1) := by decide +kernel
theorem dX5_worth_43 : decode cX5_worth 43 = .ok (.invokevirtual 189, 3) := by decide +kernel
theorem dX5_worth_46 : decode cX5_worth 46 = .ok (.isub, 1) := by decide +kernel
theorem dX5_worth_47 : decode cX5_worth 47 = .ok (.ireturn, 1) := by decide +kernel
theorem dX5_makes_0 : decode cX5_makes 0 = .ok (.iload_n 1, 1) := by decide +kernel
theorem dX5_makes_1 : decode cX5_makes 1 = .ok (.i2l, 1) := by decide +kernel
theorem dX5_makes_2 : decode cX5_makes 2 = .ok (.lconst 1, 1) := by decide +kernel
theorem dX5_makes_3 : decode cX5_makes 3 = .ok (.ldc2_w 181, 3) := by decide +kernel
theorem dX5_makes_6 : decode cX5_makes 6 = .ok (.invokestatic 70, 3) := by decide +kernel
theorem dX5_makes_9 : decode cX5_makes 9 = .ok (.ifCond .ne 6, 3) := by decide +kernel
theorem dX5_makes_12 : decode cX5_makes 12 = .ok (.bipush (-2), 2) := by decide +kernel
theorem dX5_makes_14 : decode cX5_makes 14 = .ok (.ireturn, 1) := by decide +kernel
theorem dX5_makes_15 : decode cX5_makes 15 = .ok (.aload_n 0, 1) := by decide +kernel
theorem dX5_makes_16 : decode cX5_makes 16 = .ok (.aload_n 0, 1) := by decide +kernel
theorem dX5_makes_17 : decode cX5_makes 17 = .ok (.invokevirtual 183, 3) := by decide +kernel
theorem dX5_makes_20 : decode cX5_makes 20 = .ok (.invokevirtual 189, 3) := by decide +kernel
theorem dX5_makes_23 : decode cX5_makes 23 = .ok (.istore_n 2, 1) := by decide +kernel
theorem dX5_makes_24 : decode cX5_makes 24 = .ok (.aload_n 0, 1) := by decide +kernel
theorem dX5_makes_25 : decode cX5_makes 25 = .ok (.getfield 44, 3) := by decide +kernel
theorem dX5_makes_28 : decode cX5_makes 28 = .ok (.iload_n 1, 1) := by decide +kernel
theorem dX5_makes_29 : decode cX5_makes 29 = .ok (.iaload, 1) := by decide +kernel
theorem dX5_makes_30 : decode cX5_makes 30 = .ok (.iload_n 2, 1) := by decide +kernel
theorem dX5_makes_31 : decode cX5_makes 31 = .ok (.if_icmp .le 14, 3) := by decide +kernel
theorem dX5_makes_34 : decode cX5_makes 34 = .ok (.aload_n 0, 1) := by decide +kernel
theorem dX5_makes_35 : decode cX5_makes 35 = .ok (.getfield 44, 3) := by decide +kernel
theorem dX5_makes_38 : decode cX5_makes 38 = .ok (.iload_n 1, 1) := by decide +kernel
theorem dX5_makes_39 : decode cX5_makes 39 = .ok (.iaload, 1) := by decide +kernel
theorem dX5_makes_40 : decode cX5_makes 40 = .ok (.iload_n 2, 1) := by decide +kernel
theorem dX5_makes_41 : decode cX5_makes 41 = .ok (.isub, 1) := by decide +kernel
theorem dX5_makes_42 : decode cX5_makes 42 = .ok (.goto 4, 3) := by decide +kernel
theorem dX5_makes_45 : decode cX5_makes 45 = .ok (.iconst 0, 1) := by decide +kernel
theorem dX5_makes_46 : decode cX5_makes 46 = .ok (.ireturn, 1) := by decide +kernel
theorem dX5_bestMakes_0 : decode cX5_bestMakes 0 = .ok (.aload_n 0, 1) := by decide +kernel
theorem dX5_bestMakes_1 : decode cX5_bestMakes 1 = .ok (.aload_n 0, 1) := by decide +kernel
theorem dX5_bestMakes_2 : decode cX5_bestMakes 2 = .ok (.invokevirtual 183, 3) := by decide +kernel
theorem dX5_bestMakes_5 : decode cX5_bestMakes 5 = .ok (.invokevirtual 189, 3) := by decide +kernel
theorem dX5_bestMakes_8 : decode cX5_bestMakes 8 = .ok (.istore_n 1, 1) := by decide +kernel
theorem dX5_bestMakes_9 : decode cX5_bestMakes 9 = .ok (.bipush (-9), 2) := by decide +kernel
theorem dX5_bestMakes_11 : decode cX5_bestMakes 11 = .ok (.istore_n 2, 1) := by decide +kernel
theorem dX5_bestMakes_12 : decode cX5_bestMakes 12 = .ok (.iconst 1, 1) := by decide +kernel
theorem dX5_bestMakes_13 : decode cX5_bestMakes 13 = .ok (.istore_n 3, 1) := by decide +kernel
theorem dX5_bestMakes_14 : decode cX5_bestMakes 14 = .ok (.iload_n 3, 1) := by decide +kernel
theorem dX5_bestMakes_15 : decode cX5_bestMakes 15 = .ok (.bipush 100, 2) := by decide +kernel
theorem dX5_bestMakes_17 : decode cX5_bestMakes 17 = .ok (.if_icmp .ge 46, 3) := by decide +kernel
theorem dX5_bestMakes_20 : decode cX5_bestMakes 20 = .ok (.aload_n 0, 1) := by decide +kernel
theorem dX5_bestMakes_21 : decode cX5_bestMakes 21 = .ok (.getfield 44, 3) := by decide +kernel
theorem dX5_bestMakes_24 : decode cX5_bestMakes 24 = .ok (.iload_n 3, 1) := by decide +kernel
theorem dX5_bestMakes_25 : decode cX5_bestMakes 25 = .ok (.iaload, 1) := by decide +kernel
theorem dX5_bestMakes_26 : decode cX5_bestMakes 26 = .ok (.iload_n 1, 1) := by decide +kernel
theorem dX5_bestMakes_27 : decode cX5_bestMakes 27 = .ok (.if_icmp .le 7, 3) := by decide +kernel
theorem dX5_bestMakes_30 : decode cX5_bestMakes 30 = .ok (.iload_n 3, 1) := by decide +kernel
theorem dX5_bestMakes_31 : decode cX5_bestMakes 31 = .ok (.goto 4, 3) := by decide +kernel
theorem dX5_bestMakes_34 : decode cX5_bestMakes 34 = .ok (.iload_n 2, 1) := by decide +kernel
theorem dX5_bestMakes_35 : decode cX5_bestMakes 35 = .ok (.istore_n 2, 1) := by decide +kernel
theorem dX5_bestMakes_36 : decode cX5_bestMakes 36 = .ok (.aload_n 0, 1) := by decide +kernel
theorem dX5_bestMakes_37 : decode cX5_bestMakes 37 = .ok (.getfield 44, 3) := by decide +kernel
theorem dX5_bestMakes_40 : decode cX5_bestMakes 40 = .ok (.iload_n 3, 1) := by decide +kernel
theorem dX5_bestMakes_41 : decode cX5_bestMakes 41 = .ok (.iaload, 1) := by decide +kernel
theorem dX5_bestMakes_42 : decode cX5_bestMakes 42 = .ok (.iload_n 1, 1) := by decide +kernel
theorem dX5_bestMakes_43 : decode cX5_bestMakes 43 = .ok (.if_icmp .le 12, 3) := by decide +kernel
theorem dX5_bestMakes_46 : decode cX5_bestMakes 46 = .ok (.aload_n 0, 1) := by decide +kernel
theorem dX5_bestMakes_47 : decode cX5_bestMakes 47 = .ok (.getfield 44, 3) := by decide +kernel
theorem dX5_bestMakes_50 : decode cX5_bestMakes 50 = .ok (.iload_n 3, 1) := by decide +kernel
theorem dX5_bestMakes_51 : decode cX5_bestMakes 51 = .ok (.iaload, 1) := by decide +kernel
theorem dX5_bestMakes_52 : decode cX5_bestMakes 52 = .ok (.goto 4, 3) := by decide +kernel
theorem dX5_bestMakes_55 : decode cX5_bestMakes 55 = .ok (.iload_n 1, 1) := by decide +kernel
theorem dX5_bestMakes_56 : decode cX5_bestMakes 56 = .ok (.istore_n 1, 1) := by decide +kernel
theorem dX5_bestMakes_57 : decode cX5_bestMakes 57 = .ok (.iinc 3 1, 3) := by decide +kernel
theorem dX5_bestMakes_60 : decode cX5_bestMakes 60 = .ok (.goto (-46), 3) := by decide +kernel
theorem dX5_bestMakes_63 : decode cX5_bestMakes 63 = .ok (.iload_n 2, 1) := by decide +kernel
theorem dX5_bestMakes_64 : decode cX5_bestMakes 64 = .ok (.ireturn, 1) := by decide +kernel
theorem dX5_sets_0 : decode cX5_sets 0 = .ok (.aload_n 0, 1) := by decide +kernel
theorem dX5_sets_1 : decode cX5_sets 1 = .ok (.aload_n 0, 1) := by decide +kernel
theorem dX5_sets_2 : decode cX5_sets 2 = .ok (.invokevirtual 183, 3) := by decide +kernel
theorem dX5_sets_5 : decode cX5_sets 5 = .ok (.invokevirtual 186, 3) := by decide +kernel
theorem dX5_sets_8 : decode cX5_sets 8 = .ok (.iconst 0, 1) := by decide +kernel
theorem dX5_sets_9 : decode cX5_sets 9 = .ok (.istore_n 1, 1) := by decide +kernel
theorem dX5_sets_10 : decode cX5_sets 10 = .ok (.iconst 0, 1) := by decide +kernel
theorem dX5_sets_11 : decode cX5_sets 11 = .ok (.istore_n 2, 1) := by decide +kernel
theorem dX5_sets_12 : decode cX5_sets 12 = .ok (.iload_n 2, 1) := by decide +kernel
theorem dX5_sets_13 : decode cX5_sets 13 = .ok (.sipush 256, 3) := by decide +kernel
theorem dX5_sets_16 : decode cX5_sets 16 = .ok (.if_icmp .ge 26, 3) := by decide +kernel
theorem dX5_sets_19 : decode cX5_sets 19 = .ok (.iload_n 1, 1) := by decide +kernel
theorem dX5_sets_20 : decode cX5_sets 20 = .ok (.aload_n 0, 1) := by decide +kernel
theorem dX5_sets_21 : decode cX5_sets 21 = .ok (.getfield 40, 3) := by decide +kernel
theorem dX5_sets_24 : decode cX5_sets 24 = .ok (.iload_n 2, 1) := by decide +kernel
theorem dX5_sets_25 : decode cX5_sets 25 = .ok (.baload, 1) := by decide +kernel
theorem dX5_sets_26 : decode cX5_sets 26 = .ok (.ifCond .eq 7, 3) := by decide +kernel
theorem dX5_sets_29 : decode cX5_sets 29 = .ok (.iconst 1, 1) := by decide +kernel
theorem dX5_sets_30 : decode cX5_sets 30 = .ok (.goto 4, 3) := by decide +kernel
theorem dX5_sets_33 : decode cX5_sets 33 = .ok (.iconst 0, 1) := by decide +kernel
theorem dX5_sets_34 : decode cX5_sets 34 = .ok (.iadd, 1) := by decide +kernel
theorem dX5_sets_35 : decode cX5_sets 35 = .ok (.istore_n 1, 1) := by decide +kernel
theorem dX5_sets_36 : decode cX5_sets 36 = .ok (.iinc 2 1, 3) := by decide +kernel
theorem dX5_sets_39 : decode cX5_sets 39 = .ok (.goto (-27), 3) := by decide +kernel
theorem dX5_sets_42 : decode cX5_sets 42 = .ok (.iload_n 1, 1) := by decide +kernel
theorem dX5_sets_43 : decode cX5_sets 43 = .ok (.ireturn, 1) := by decide +kernel
theorem dX5_layFewest_0 : decode cX5_layFewest 0 = .ok (.aload_n 0, 1) := by decide +kernel
theorem dX5_layFewest_1 : decode cX5_layFewest 1 = .ok (.aload_n 0, 1) := by decide +kernel
theorem dX5_layFewest_2 : decode cX5_layFewest 2 = .ok (.invokevirtual 183, 3) := by decide +kernel
theorem dX5_layFewest_5 : decode cX5_layFewest 5 = .ok (.invokevirtual 186, 3) := by decide +kernel
theorem dX5_layFewest_8 : decode cX5_layFewest 8 = .ok (.iconst 0, 1) := by decide +kernel
theorem dX5_layFewest_9 : decode cX5_layFewest 9 = .ok (.istore_n 1, 1) := by decide +kernel
theorem dX5_layFewest_10 : decode cX5_layFewest 10 = .ok (.iload_n 1, 1) := by decide +kernel
theorem dX5_layFewest_11 : decode cX5_layFewest 11 = .ok (.sipush 256, 3) := by decide +kernel
theorem dX5_layFewest_14 : decode cX5_layFewest 14 = .ok (.if_icmp .ge 93, 3) := by decide +kernel
theorem dX5_layFewest_17 : decode cX5_layFewest 17 = .ok (.aload_n 0, 1) := by decide +kernel
theorem dX5_layFewest_18 : decode cX5_layFewest 18 = .ok (.getfield 47, 3) := by decide +kernel
theorem dX5_layFewest_21 : decode cX5_layFewest 21 = .ok (.iload_n 1, 1) := by decide +kernel
theorem dX5_layFewest_22 : decode cX5_layFewest 22 = .ok (.iload_n 1, 1) := by decide +kernel
theorem dX5_layFewest_23 : decode cX5_layFewest 23 = .ok (.ifCond .ne 7, 3) := by decide +kernel
theorem dX5_layFewest_26 : decode cX5_layFewest 26 = .ok (.iconst 0, 1) := by decide +kernel
theorem dX5_layFewest_27 : decode cX5_layFewest 27 = .ok (.goto 5, 3) := by decide +kernel
theorem dX5_layFewest_30 : decode cX5_layFewest 30 = .ok (.bipush 99, 2) := by decide +kernel
theorem dX5_layFewest_32 : decode cX5_layFewest 32 = .ok (.iastore, 1) := by decide +kernel
theorem dX5_layFewest_33 : decode cX5_layFewest 33 = .ok (.iload_n 1, 1) := by decide +kernel
theorem dX5_layFewest_34 : decode cX5_layFewest 34 = .ok (.istore_n 2, 1) := by decide +kernel
theorem dX5_layFewest_35 : decode cX5_layFewest 35 = .ok (.iload_n 2, 1) := by decide +kernel
theorem dX5_layFewest_36 : decode cX5_layFewest 36 = .ok (.ifCond .le 65, 3) := by decide +kernel
theorem dX5_layFewest_39 : decode cX5_layFewest 39 = .ok (.aload_n 0, 1) := by decide +kernel
theorem dX5_layFewest_40 : decode cX5_layFewest 40 = .ok (.getfield 40, 3) := by decide +kernel
theorem dX5_layFewest_43 : decode cX5_layFewest 43 = .ok (.iload_n 2, 1) := by decide +kernel
theorem dX5_layFewest_44 : decode cX5_layFewest 44 = .ok (.baload, 1) := by decide +kernel
theorem dX5_layFewest_45 : decode cX5_layFewest 45 = .ok (.ifCond .eq 18, 3) := by decide +kernel
theorem dX5_layFewest_48 : decode cX5_layFewest 48 = .ok (.aload_n 0, 1) := by decide +kernel
theorem dX5_layFewest_49 : decode cX5_layFewest 49 = .ok (.getfield 47, 3) := by decide +kernel
theorem dX5_layFewest_52 : decode cX5_layFewest 52 = .ok (.iload_n 1, 1) := by decide +kernel
theorem dX5_layFewest_53 : decode cX5_layFewest 53 = .ok (.iload_n 2, 1) := by decide +kernel
theorem dX5_layFewest_54 : decode cX5_layFewest 54 = .ok (.iconst (-1), 1) := by decide +kernel
theorem dX5_layFewest_55 : decode cX5_layFewest 55 = .ok (.ixor, 1) := by decide +kernel
theorem dX5_layFewest_56 : decode cX5_layFewest 56 = .ok (.iand, 1) := by decide +kernel
theorem dX5_layFewest_57 : decode cX5_layFewest 57 = .ok (.iaload, 1) := by decide +kernel
theorem dX5_layFewest_58 : decode cX5_layFewest 58 = .ok (.iconst 1, 1) := by decide +kernel
theorem dX5_layFewest_59 : decode cX5_layFewest 59 = .ok (.iadd, 1) := by decide +kernel
theorem dX5_layFewest_60 : decode cX5_layFewest 60 = .ok (.goto 5, 3) := by decide +kernel
theorem dX5_layFewest_63 : decode cX5_layFewest 63 = .ok (.bipush 99, 2) := by decide +kernel
theorem dX5_layFewest_65 : decode cX5_layFewest 65 = .ok (.istore_n 3, 1) := by decide +kernel
theorem dX5_layFewest_66 : decode cX5_layFewest 66 = .ok (.aload_n 0, 1) := by decide +kernel
theorem dX5_layFewest_67 : decode cX5_layFewest 67 = .ok (.getfield 47, 3) := by decide +kernel
theorem dX5_layFewest_70 : decode cX5_layFewest 70 = .ok (.iload_n 1, 1) := by decide +kernel
theorem dX5_layFewest_71 : decode cX5_layFewest 71 = .ok (.iload_n 3, 1) := by decide +kernel
theorem dX5_layFewest_72 : decode cX5_layFewest 72 = .ok (.aload_n 0, 1) := by decide +kernel
theorem dX5_layFewest_73 : decode cX5_layFewest 73 = .ok (.getfield 47, 3) := by decide +kernel
theorem dX5_layFewest_76 : decode cX5_layFewest 76 = .ok (.iload_n 1, 1) := by decide +kernel
theorem dX5_layFewest_77 : decode cX5_layFewest 77 = .ok (.iaload, 1) := by decide +kernel
theorem dX5_layFewest_78 : decode cX5_layFewest 78 = .ok (.if_icmp .ge 7, 3) := by decide +kernel
theorem dX5_layFewest_81 : decode cX5_layFewest 81 = .ok (.iload_n 3, 1) := by decide +kernel
theorem dX5_layFewest_82 : decode cX5_layFewest 82 = .ok (.goto 9, 3) := by decide +kernel
theorem dX5_layFewest_85 : decode cX5_layFewest 85 = .ok (.aload_n 0, 1) := by decide +kernel
theorem dX5_layFewest_86 : decode cX5_layFewest 86 = .ok (.getfield 47, 3) := by decide +kernel
theorem dX5_layFewest_89 : decode cX5_layFewest 89 = .ok (.iload_n 1, 1) := by decide +kernel
theorem dX5_layFewest_90 : decode cX5_layFewest 90 = .ok (.iaload, 1) := by decide +kernel
theorem dX5_layFewest_91 : decode cX5_layFewest 91 = .ok (.iastore, 1) := by decide +kernel
theorem dX5_layFewest_92 : decode cX5_layFewest 92 = .ok (.iload_n 2, 1) := by decide +kernel
theorem dX5_layFewest_93 : decode cX5_layFewest 93 = .ok (.iconst 1, 1) := by decide +kernel
theorem dX5_layFewest_94 : decode cX5_layFewest 94 = .ok (.isub, 1) := by decide +kernel
theorem dX5_layFewest_95 : decode cX5_layFewest 95 = .ok (.iload_n 1, 1) := by decide +kernel
theorem dX5_layFewest_96 : decode cX5_layFewest 96 = .ok (.iand, 1) := by decide +kernel
theorem dX5_layFewest_97 : decode cX5_layFewest 97 = .ok (.istore_n 2, 1) := by decide +kernel
theorem dX5_layFewest_98 : decode cX5_layFewest 98 = .ok (.goto (-63), 3) := by decide +kernel
theorem dX5_layFewest_101 : decode cX5_layFewest 101 = .ok (.iinc 1 1, 3) := by decide +kernel
theorem dX5_layFewest_104 : decode cX5_layFewest 104 = .ok (.goto (-94), 3) := by decide +kernel
theorem dX5_layFewest_107 : decode cX5_layFewest 107 = .ok (.return_, 1) := by decide +kernel
theorem dX5_crossings_0 : decode cX5_crossings 0 = .ok (.iload_n 1, 1) := by decide +kernel
theorem dX5_crossings_1 : decode cX5_crossings 1 = .ok (.i2l, 1) := by decide +kernel
theorem dX5_crossings_2 : decode cX5_crossings 2 = .ok (.lconst 1, 1) := by decide +kernel
theorem dX5_crossings_3 : decode cX5_crossings 3 = .ok (.ldc2_w 108, 3) := by decide +kernel
theorem dX5_crossings_6 : decode cX5_crossings 6 = .ok (.invokestatic 70, 3) := by decide +kernel
theorem dX5_crossings_9 : decode cX5_crossings 9 = .ok (.ifCond .ne 6, 3) := by decide +kernel
theorem dX5_crossings_12 : decode cX5_crossings 12 = .ok (.bipush (-2), 2) := by decide +kernel
theorem dX5_crossings_14 : decode cX5_crossings 14 = .ok (.ireturn, 1) := by decide +kernel
theorem dX5_crossings_15 : decode cX5_crossings 15 = .ok (.aload_n 0, 1) := by decide +kernel
theorem dX5_crossings_16 : decode cX5_crossings 16 = .ok (.invokevirtual 192, 3) := by decide +kernel
theorem dX5_crossings_19 : decode cX5_crossings 19 = .ok (.iconst 0, 1) := by decide +kernel
theorem dX5_crossings_20 : decode cX5_crossings 20 = .ok (.istore_n 2, 1) := by decide +kernel
theorem dX5_crossings_21 : decode cX5_crossings 21 = .ok (.iconst 0, 1) := by decide +kernel
theorem dX5_crossings_22 : decode cX5_crossings 22 = .ok (.istore_n 3, 1) := by decide +kernel
theorem dX5_crossings_23 : decode cX5_crossings 23 = .ok (.iload_n 3, 1) := by decide +kernel
theorem dX5_crossings_24 : decode cX5_crossings 24 = .ok (.sipush 256, 3) := by decide +kernel
theorem dX5_crossings_27 : decode cX5_crossings 27 = .ok (.if_icmp .ge 38, 3) := by decide +kernel
theorem dX5_crossings_30 : decode cX5_crossings 30 = .ok (.aload_n 0, 1) := by decide +kernel
theorem dX5_crossings_31 : decode cX5_crossings 31 = .ok (.getfield 47, 3) := by decide +kernel
theorem dX5_crossings_34 : decode cX5_crossings 34 = .ok (.iload_n 3, 1) := by decide +kernel
theorem dX5_crossings_35 : decode cX5_crossings 35 = .ok (.iaload, 1) := by decide +kernel
theorem dX5_crossings_36 : decode cX5_crossings 36 = .ok (.iload_n 1, 1) := by decide +kernel
theorem dX5_crossings_37 : decode cX5_crossings 37 = .ok (.if_icmp .gt 20, 3) := by decide +kernel
theorem dX5_crossings_40 : decode cX5_crossings 40 = .ok (.aload_n 0, 1) := by decide +kernel
theorem dX5_crossings_41 : decode cX5_crossings 41 = .ok (.iload_n 3, 1) := by decide +kernel
theorem dX5_crossings_42 : decode cX5_crossings 42 = .ok (.invokevirtual 154, 3) := by decide +kernel
theorem dX5_crossings_45 : decode cX5_crossings 45 = .ok (.iload_n 2, 1) := by decide +kernel
theorem dX5_crossings_46 : decode cX5_crossings 46 = .ok (.if_icmp .le 11, 3) := by decide +kernel
theorem dX5_crossings_49 : decode cX5_crossings 49 = .ok (.aload_n 0, 1) := by decide +kernel
theorem dX5_crossings_50 : decode cX5_crossings 50 = .ok (.iload_n 3, 1) := by decide +kernel
theorem dX5_crossings_51 : decode cX5_crossings 51 = .ok (.invokevirtual 154, 3) := by decide +kernel
theorem dX5_crossings_54 : decode cX5_crossings 54 = .ok (.goto 4, 3) := by decide +kernel
theorem dX5_crossings_57 : decode cX5_crossings 57 = .ok (.iload_n 2, 1) := by decide +kernel
theorem dX5_crossings_58 : decode cX5_crossings 58 = .ok (.istore_n 2, 1) := by decide +kernel
theorem dX5_crossings_59 : decode cX5_crossings 59 = .ok (.iinc 3 1, 3) := by decide +kernel
theorem dX5_crossings_62 : decode cX5_crossings 62 = .ok (.goto (-39), 3) := by decide +kernel
theorem dX5_crossings_65 : decode cX5_crossings 65 = .ok (.iload_n 2, 1) := by decide +kernel
theorem dX5_crossings_66 : decode cX5_crossings 66 = .ok (.ireturn, 1) := by decide +kernel
theorem dX5_all_0 : decode cX5_all 0 = .ok (.aload_n 0, 1) := by decide +kernel
theorem dX5_all_1 : decode cX5_all 1 = .ok (.invokevirtual 192, 3) := by decide +kernel
theorem dX5_all_4 : decode cX5_all 4 = .ok (.aload_n 0, 1) := by decide +kernel
theorem dX5_all_5 : decode cX5_all 5 = .ok (.getfield 47, 3) := by decide +kernel
theorem dX5_all_8 : decode cX5_all 8 = .ok (.aload_n 0, 1) := by decide +kernel
theorem dX5_all_9 : decode cX5_all 9 = .ok (.invokevirtual 183, 3) := by decide +kernel
theorem dX5_all_12 : decode cX5_all 12 = .ok (.iaload, 1) := by decide +kernel
theorem dX5_all_13 : decode cX5_all 13 = .ok (.bipush 99, 2) := by decide +kernel
theorem dX5_all_15 : decode cX5_all 15 = .ok (.if_icmp .ge 15, 3) := by decide +kernel
theorem dX5_all_18 : decode cX5_all 18 = .ok (.aload_n 0, 1) := by decide +kernel
theorem dX5_all_19 : decode cX5_all 19 = .ok (.getfield 47, 3) := by decide +kernel
theorem dX5_all_22 : decode cX5_all 22 = .ok (.aload_n 0, 1) := by decide +kernel
theorem dX5_all_23 : decode cX5_all 23 = .ok (.invokevirtual 183, 3) := by decide +kernel
theorem dX5_all_26 : decode cX5_all 26 = .ok (.iaload, 1) := by decide +kernel
theorem dX5_all_27 : decode cX5_all 27 = .ok (.goto 5, 3) := by decide +kernel
theorem dX5_all_30 : decode cX5_all 30 = .ok (.bipush (-9), 2) := by decide +kernel
theorem dX5_all_32 : decode cX5_all 32 = .ok (.ireturn, 1) := by decide +kernel
theorem dX5_layRule_0 : decode cX5_layRule 0 = .ok (.aload_n 0, 1) := by decide +kernel
theorem dX5_layRule_1 : decode cX5_layRule 1 = .ok (.getfield 37, 3) := by decide +kernel
theorem dX5_layRule_4 : decode cX5_layRule 4 = .ok (.iconst 0, 1) := by decide +kernel
theorem dX5_layRule_5 : decode cX5_layRule 5 = .ok (.iconst 0, 1) := by decide +kernel
theorem dX5_layRule_6 : decode cX5_layRule 6 = .ok (.iastore, 1) := by decide +kernel
theorem dX5_layRule_7 : decode cX5_layRule 7 = .ok (.aload_n 0, 1) := by decide +kernel
theorem dX5_layRule_8 : decode cX5_layRule 8 = .ok (.getfield 37, 3) := by decide +kernel
theorem dX5_layRule_11 : decode cX5_layRule 11 = .ok (.iconst 1, 1) := by decide +kernel
theorem dX5_layRule_12 : decode cX5_layRule 12 = .ok (.iconst 0, 1) := by decide +kernel
theorem dX5_layRule_13 : decode cX5_layRule 13 = .ok (.iastore, 1) := by decide +kernel
theorem dX5_layRule_14 : decode cX5_layRule 14 = .ok (.aload_n 0, 1) := by decide +kernel
theorem dX5_layRule_15 : decode cX5_layRule 15 = .ok (.getfield 37, 3) := by decide +kernel
theorem dX5_layRule_18 : decode cX5_layRule 18 = .ok (.iconst 2, 1) := by decide +kernel
theorem dX5_layRule_19 : decode cX5_layRule 19 = .ok (.iconst 0, 1) := by decide +kernel
theorem dX5_layRule_20 : decode cX5_layRule 20 = .ok (.iastore, 1) := by decide +kernel
theorem dX5_layRule_21 : decode cX5_layRule 21 = .ok (.iconst 0, 1) := by decide +kernel
theorem dX5_layRule_22 : decode cX5_layRule 22 = .ok (.istore_n 1, 1) := by decide +kernel
theorem dX5_layRule_23 : decode cX5_layRule 23 = .ok (.iload_n 1, 1) := by decide +kernel
theorem dX5_layRule_24 : decode cX5_layRule 24 = .ok (.aload_n 0, 1) := by decide +kernel
theorem dX5_layRule_25 : decode cX5_layRule 25 = .ok (.getfield 99, 3) := by decide +kernel
theorem dX5_layRule_28 : decode cX5_layRule 28 = .ok (.if_icmp .ge 176, 3) := by decide +kernel
theorem dX5_layRule_31 : decode cX5_layRule 31 = .ok (.bipush (-9), 2) := by decide +kernel
theorem dX5_layRule_33 : decode cX5_layRule 33 = .ok (.istore_n 2, 1) := by decide +kernel
theorem dX5_layRule_34 : decode cX5_layRule 34 = .ok (.iconst 0, 1) := by decide +kernel
theorem dX5_layRule_35 : decode cX5_layRule 35 = .ok (.istore_n 3, 1) := by decide +kernel
theorem dX5_layRule_36 : decode cX5_layRule 36 = .ok (.iconst 0, 1) := by decide +kernel
theorem dX5_layRule_37 : decode cX5_layRule 37 = .ok (.istore 4, 2) := by decide +kernel
theorem dX5_layRule_39 : decode cX5_layRule 39 = .ok (.iload 4, 2) := by decide +kernel
theorem dX5_layRule_41 : decode cX5_layRule 41 = .ok (.aload_n 0, 1) := by decide +kernel
theorem dX5_layRule_42 : decode cX5_layRule 42 = .ok (.getfield 16, 3) := by decide +kernel
theorem dX5_layRule_45 : decode cX5_layRule 45 = .ok (.iconst 0, 1) := by decide +kernel
theorem dX5_layRule_46 : decode cX5_layRule 46 = .ok (.iaload, 1) := by decide +kernel
theorem dX5_layRule_47 : decode cX5_layRule 47 = .ok (.if_icmp .ge 133, 3) := by decide +kernel
theorem dX5_layRule_50 : decode cX5_layRule 50 = .ok (.aload_n 0, 1) := by decide +kernel
theorem dX5_layRule_51 : decode cX5_layRule 51 = .ok (.getfield 28, 3) := by decide +kernel
theorem dX5_layRule_54 : decode cX5_layRule 54 = .ok (.iload_n 1, 1) := by decide +kernel
theorem dX5_layRule_55 : decode cX5_layRule 55 = .ok (.iaload, 1) := by decide +kernel
theorem dX5_layRule_56 : decode cX5_layRule 56 = .ok (.bipush 20, 2) := by decide +kernel
theorem dX5_layRule_58 : decode cX5_layRule 58 = .ok (.if_icmp .eq 122, 3) := by decide +kernel
theorem dX5_layRule_61 : decode cX5_layRule 61 = .ok (.aload_n 0, 1) := by decide +kernel
theorem dX5_layRule_62 : decode cX5_layRule 62 = .ok (.aload_n 0, 1) := by decide +kernel
theorem dX5_layRule_63 : decode cX5_layRule 63 = .ok (.getfield 37, 3) := by decide +kernel
theorem dX5_layRule_66 : decode cX5_layRule 66 = .ok (.iload 4, 2) := by decide +kernel
theorem dX5_layRule_68 : decode cX5_layRule 68 = .ok (.iaload, 1) := by decide +kernel
theorem dX5_layRule_69 : decode cX5_layRule 69 = .ok (.iload 4, 2) := by decide +kernel
theorem dX5_layRule_71 : decode cX5_layRule 71 = .ok (.iconst 0, 1) := by decide +kernel
theorem dX5_layRule_72 : decode cX5_layRule 72 = .ok (.iconst 0, 1) := by decide +kernel
theorem dX5_layRule_73 : decode cX5_layRule 73 = .ok (.invokevirtual 138, 3) := by decide +kernel
theorem dX5_layRule_76 : decode cX5_layRule 76 = .ok (.aload_n 0, 1) := by decide +kernel
theorem dX5_layRule_77 : decode cX5_layRule 77 = .ok (.getfield 16, 3) := by decide +kernel
theorem dX5_layRule_80 : decode cX5_layRule 80 = .ok (.iconst 0, 1) := by decide +kernel
theorem dX5_layRule_81 : decode cX5_layRule 81 = .ok (.iaload, 1) := by decide +kernel
theorem dX5_layRule_82 : decode cX5_layRule 82 = .ok (.iconst 3, 1) := by decide +kernel
theorem dX5_layRule_83 : decode cX5_layRule 83 = .ok (.if_icmp .ne 7, 3) := by decide +kernel
theorem dX5_layRule_86 : decode cX5_layRule 86 = .ok (.iconst 1, 1) := by decide +kernel
theorem dX5_layRule_87 : decode cX5_layRule 87 = .ok (.goto 12, 3) := by decide +kernel
theorem dX5_layRule_90 : decode cX5_layRule 90 = .ok (.aload_n 0, 1) := by decide +kernel
theorem dX5_layRule_91 : decode cX5_layRule 91 = .ok (.getfield 16, 3) := by decide +kernel
theorem dX5_layRule_94 : decode cX5_layRule 94 = .ok (.iconst 1, 1) := by decide +kernel
theorem dX5_layRule_95 : decode cX5_layRule 95 = .ok (.iload 4, 2) := by decide +kernel
theorem dX5_layRule_97 : decode cX5_layRule 97 = .ok (.iadd, 1) := by decide +kernel
theorem dX5_layRule_98 : decode cX5_layRule 98 = .ok (.iaload, 1) := by decide +kernel
theorem dX5_layRule_99 : decode cX5_layRule 99 = .ok (.imul, 1) := by decide +kernel
theorem dX5_layRule_100 : decode cX5_layRule 100 = .ok (.istore 5, 2) := by decide +kernel
theorem dX5_layRule_102 : decode cX5_layRule 102 = .ok (.aload_n 0, 1) := by decide +kernel
theorem dX5_layRule_103 : decode cX5_layRule 103 = .ok (.iload_n 1, 1) := by decide +kernel
theorem dX5_layRule_104 : decode cX5_layRule 104 = .ok (.iload 4, 2) := by decide +kernel
theorem dX5_layRule_106 : decode cX5_layRule 106 = .ok (.invokevirtual 121, 3) := by decide +kernel
theorem dX5_layRule_109 : decode cX5_layRule 109 = .ok (.ifCond .eq 38, 3) := by decide +kernel
theorem dX5_layRule_112 : decode cX5_layRule 112 = .ok (.aload_n 0, 1) := by decide +kernel
theorem dX5_layRule_113 : decode cX5_layRule 113 = .ok (.getfield 37, 3) := by decide +kernel
theorem dX5_layRule_116 : decode cX5_layRule 116 = .ok (.iload 4, 2) := by decide +kernel
theorem dX5_layRule_118 : decode cX5_layRule 118 = .ok (.iaload, 1) := by decide +kernel
theorem dX5_layRule_119 : decode cX5_layRule 119 = .ok (.invokestatic 128, 3) := by decide +kernel
theorem dX5_layRule_122 : decode cX5_layRule 122 = .ok (.aload_n 0, 1) := by decide +kernel
theorem dX5_layRule_123 : decode cX5_layRule 123 = .ok (.getfield 16, 3) := by decide +kernel
theorem dX5_layRule_126 : decode cX5_layRule 126 = .ok (.iconst 3, 1) := by decide +kernel
theorem dX5_layRule_127 : decode cX5_layRule 127 = .ok (.iaload, 1) := by decide +kernel
theorem dX5_layRule_128 : decode cX5_layRule 128 = .ok (.if_icmp .ge 19, 3) := by decide +kernel
theorem dX5_layRule_131 : decode cX5_layRule 131 = .ok (.iload_n 2, 1) := by decide +kernel
theorem dX5_layRule_132 : decode cX5_layRule 132 = .ok (.bipush (-9), 2) := by decide +kernel
theorem dX5_layRule_134 : decode cX5_layRule 134 = .ok (.if_icmp .eq 9, 3) := by decide +kernel
theorem dX5_layRule_137 : decode cX5_layRule 137 = .ok (.iload 5, 2) := by decide +kernel
theorem dX5_layRule_139 : decode cX5_layRule 139 = .ok (.iload_n 3, 1) := by decide +kernel
theorem dX5_layRule_140 : decode cX5_layRule 140 = .ok (.if_icmp .ge 7, 3) := by decide +kernel
theorem dX5_layRule_143 : decode cX5_layRule 143 = .ok (.iconst 1, 1) := by decide +kernel
theorem dX5_layRule_144 : decode cX5_layRule 144 = .ok (.goto 4, 3) := by decide +kernel
theorem dX5_layRule_147 : decode cX5_layRule 147 = .ok (.iconst 0, 1) := by decide +kernel
theorem dX5_layRule_148 : decode cX5_layRule 148 = .ok (.istore 6, 2) := by decide +kernel
theorem dX5_layRule_150 : decode cX5_layRule 150 = .ok (.iload 6, 2) := by decide +kernel
theorem dX5_layRule_152 : decode cX5_layRule 152 = .ok (.ifCond .eq 8, 3) := by decide +kernel
theorem dX5_layRule_155 : decode cX5_layRule 155 = .ok (.iload 4, 2) := by decide +kernel
theorem dX5_layRule_157 : decode cX5_layRule 157 = .ok (.goto 4, 3) := by decide +kernel
theorem dX5_layRule_160 : decode cX5_layRule 160 = .ok (.iload_n 2, 1) := by decide +kernel
theorem dX5_layRule_161 : decode cX5_layRule 161 = .ok (.istore_n 2, 1) := by decide +kernel
theorem dX5_layRule_162 : decode cX5_layRule 162 = .ok (.iload 6, 2) := by decide +kernel
theorem dX5_layRule_164 : decode cX5_layRule 164 = .ok (.ifCond .eq 8, 3) := by decide +kernel
theorem dX5_layRule_167 : decode cX5_layRule 167 = .ok (.iload 5, 2) := by decide +kernel
theorem dX5_layRule_169 : decode cX5_layRule 169 = .ok (.goto 4, 3) := by decide +kernel
theorem dX5_layRule_172 : decode cX5_layRule 172 = .ok (.iload_n 3, 1) := by decide +kernel
theorem dX5_layRule_173 : decode cX5_layRule 173 = .ok (.istore_n 3, 1) := by decide +kernel
theorem dX5_layRule_174 : decode cX5_layRule 174 = .ok (.iinc 4 1, 3) := by decide +kernel
theorem dX5_layRule_177 : decode cX5_layRule 177 = .ok (.goto (-138), 3) := by decide +kernel
theorem dX5_layRule_180 : decode cX5_layRule 180 = .ok (.iload_n 2, 1) := by decide +kernel
theorem dX5_layRule_181 : decode cX5_layRule 181 = .ok (.bipush (-9), 2) := by decide +kernel
theorem dX5_layRule_183 : decode cX5_layRule 183 = .ok (.if_icmp .eq 15, 3) := by decide +kernel
theorem dX5_layRule_186 : decode cX5_layRule 186 = .ok (.aload_n 0, 1) := by decide +kernel
theorem dX5_layRule_187 : decode cX5_layRule 187 = .ok (.getfield 37, 3) := by decide +kernel
theorem dX5_layRule_190 : decode cX5_layRule 190 = .ok (.iload_n 2, 1) := by decide +kernel
theorem dX5_layRule_191 : decode cX5_layRule 191 = .ok (.dup2, 1) := by decide +kernel
theorem dX5_layRule_192 : decode cX5_layRule 192 = .ok (.iaload, 1) := by decide +kernel
theorem dX5_layRule_193 : decode cX5_layRule 193 = .ok (.iconst 1, 1) := by decide +kernel
theorem dX5_layRule_194 : decode cX5_layRule 194 = .ok (.iload_n 1, 1) := by decide +kernel
theorem dX5_layRule_195 : decode cX5_layRule 195 = .ok (.ishl, 1) := by decide +kernel
theorem dX5_layRule_196 : decode cX5_layRule 196 = .ok (.ior, 1) := by decide +kernel
theorem dX5_layRule_197 : decode cX5_layRule 197 = .ok (.iastore, 1) := by decide +kernel
theorem dX5_layRule_198 : decode cX5_layRule 198 = .ok (.iinc 1 1, 3) := by decide +kernel
theorem dX5_layRule_201 : decode cX5_layRule 201 = .ok (.goto (-178), 3) := by decide +kernel
theorem dX5_layRule_204 : decode cX5_layRule 204 = .ok (.return_, 1) := by decide +kernel
theorem dX5_rule_0 : decode cX5_rule 0 = .ok (.aload_n 0, 1) := by decide +kernel
theorem dX5_rule_1 : decode cX5_rule 1 = .ok (.invokevirtual 195, 3) := by decide +kernel
theorem dX5_rule_4 : decode cX5_rule 4 = .ok (.aload_n 0, 1) := by decide +kernel
theorem dX5_rule_5 : decode cX5_rule 5 = .ok (.aload_n 0, 1) := by decide +kernel
theorem dX5_rule_6 : decode cX5_rule 6 = .ok (.getfield 37, 3) := by decide +kernel
theorem dX5_rule_9 : decode cX5_rule 9 = .ok (.iconst 0, 1) := by decide +kernel
theorem dX5_rule_10 : decode cX5_rule 10 = .ok (.iaload, 1) := by decide +kernel
theorem dX5_rule_11 : decode cX5_rule 11 = .ok (.aload_n 0, 1) := by decide +kernel
theorem dX5_rule_12 : decode cX5_rule 12 = .ok (.getfield 37, 3) := by decide +kernel
theorem dX5_rule_15 : decode cX5_rule 15 = .ok (.iconst 1, 1) := by decide +kernel
theorem dX5_rule_16 : decode cX5_rule 16 = .ok (.iaload, 1) := by decide +kernel
theorem dX5_rule_17 : decode cX5_rule 17 = .ok (.aload_n 0, 1) := by decide +kernel
theorem dX5_rule_18 : decode cX5_rule 18 = .ok (.getfield 37, 3) := by decide +kernel
theorem dX5_rule_21 : decode cX5_rule 21 = .ok (.iconst 2, 1) := by decide +kernel
theorem dX5_rule_22 : decode cX5_rule 22 = .ok (.iaload, 1) := by decide +kernel
theorem dX5_rule_23 : decode cX5_rule 23 = .ok (.iconst 0, 1) := by decide +kernel
theorem dX5_rule_24 : decode cX5_rule 24 = .ok (.invokevirtual 150, 3) := by decide +kernel
theorem dX5_rule_27 : decode cX5_rule 27 = .ok (.ifCond .eq 30, 3) := by decide +kernel
theorem dX5_rule_30 : decode cX5_rule 30 = .ok (.aload_n 0, 1) := by decide +kernel
theorem dX5_rule_31 : decode cX5_rule 31 = .ok (.aload_n 0, 1) := by decide +kernel
theorem dX5_rule_32 : decode cX5_rule 32 = .ok (.getfield 37, 3) := by decide +kernel
theorem dX5_rule_35 : decode cX5_rule 35 = .ok (.iconst 0, 1) := by decide +kernel
theorem dX5_rule_36 : decode cX5_rule 36 = .ok (.iaload, 1) := by decide +kernel
theorem dX5_rule_37 : decode cX5_rule 37 = .ok (.aload_n 0, 1) := by decide +kernel
theorem dX5_rule_38 : decode cX5_rule 38 = .ok (.getfield 37, 3) := by decide +kernel
theorem dX5_rule_41 : decode cX5_rule 41 = .ok (.iconst 1, 1) := by decide +kernel
theorem dX5_rule_42 : decode cX5_rule 42 = .ok (.iaload, 1) := by decide +kernel
theorem dX5_rule_43 : decode cX5_rule 43 = .ok (.ior, 1) := by decide +kernel
theorem dX5_rule_44 : decode cX5_rule 44 = .ok (.aload_n 0, 1) := by decide +kernel
theorem dX5_rule_45 : decode cX5_rule 45 = .ok (.getfield 37, 3) := by decide +kernel
theorem dX5_rule_48 : decode cX5_rule 48 = .ok (.iconst 2, 1) := by decide +kernel
theorem dX5_rule_49 : decode cX5_rule 49 = .ok (.iaload, 1) := by decide +kernel
theorem dX5_rule_50 : decode cX5_rule 50 = .ok (.ior, 1) := by decide +kernel
theorem dX5_rule_51 : decode cX5_rule 51 = .ok (.invokevirtual 154, 3) := by decide +kernel
theorem dX5_rule_54 : decode cX5_rule 54 = .ok (.goto 4, 3) := by decide +kernel
theorem dX5_rule_57 : decode cX5_rule 57 = .ok (.iconst 0, 1) := by decide +kernel
theorem dX5_rule_58 : decode cX5_rule 58 = .ok (.ireturn, 1) := by decide +kernel
theorem dX5_ruleAt_0 : decode cX5_ruleAt 0 = .ok (.aload_n 0, 1) := by decide +kernel
theorem dX5_ruleAt_1 : decode cX5_ruleAt 1 = .ok (.iload_n 1, 1) := by decide +kernel
theorem dX5_ruleAt_2 : decode cX5_ruleAt 2 = .ok (.invokevirtual 110, 3) := by decide +kernel
theorem dX5_ruleAt_5 : decode cX5_ruleAt 5 = .ok (.ifCond .ne 5, 3) := by decide +kernel
theorem dX5_ruleAt_8 : decode cX5_ruleAt 8 = .ok (.iconst (-1), 1) := by decide +kernel
theorem dX5_ruleAt_9 : decode cX5_ruleAt 9 = .ok (.ireturn, 1) := by decide +kernel
theorem dX5_ruleAt_10 : decode cX5_ruleAt 10 = .ok (.aload_n 0, 1) := by decide +kernel
theorem dX5_ruleAt_11 : decode cX5_ruleAt 11 = .ok (.invokevirtual 195, 3) := by decide +kernel
theorem dX5_ruleAt_14 : decode cX5_ruleAt 14 = .ok (.iconst 0, 1) := by decide +kernel
theorem dX5_ruleAt_15 : decode cX5_ruleAt 15 = .ok (.istore_n 2, 1) := by decide +kernel
theorem dX5_ruleAt_16 : decode cX5_ruleAt 16 = .ok (.iload_n 2, 1) := by decide +kernel
theorem dX5_ruleAt_17 : decode cX5_ruleAt 17 = .ok (.iconst 3, 1) := by decide +kernel
theorem dX5_ruleAt_18 : decode cX5_ruleAt 18 = .ok (.if_icmp .ge 25, 3) := by decide +kernel
theorem dX5_ruleAt_21 : decode cX5_ruleAt 21 = .ok (.aload_n 0, 1) := by decide +kernel
theorem dX5_ruleAt_22 : decode cX5_ruleAt 22 = .ok (.getfield 37, 3) := by decide +kernel
theorem dX5_ruleAt_25 : decode cX5_ruleAt 25 = .ok (.iload_n 2, 1) := by decide +kernel
theorem dX5_ruleAt_26 : decode cX5_ruleAt 26 = .ok (.iaload, 1) := by decide +kernel
theorem dX5_ruleAt_27 : decode cX5_ruleAt 27 = .ok (.iload_n 1, 1) := by decide +kernel
theorem dX5_ruleAt_28 : decode cX5_ruleAt 28 = .ok (.ishr, 1) := by decide +kernel
theorem dX5_ruleAt_29 : decode cX5_ruleAt 29 = .ok (.iconst 1, 1) := by decide +kernel
theorem dX5_ruleAt_30 : decode cX5_ruleAt 30 = .ok (.iand, 1) := by decide +kernel
theorem dX5_ruleAt_31 : decode cX5_ruleAt 31 = .ok (.iconst 1, 1) := by decide +kernel
theorem dX5_ruleAt_32 : decode cX5_ruleAt 32 = .ok (.if_icmp .ne 5, 3) := by decide +kernel
theorem dX5_ruleAt_35 : decode cX5_ruleAt 35 = .ok (.iload_n 2, 1) := by decide +kernel
theorem dX5_ruleAt_36 : decode cX5_ruleAt 36 = .ok (.ireturn, 1) := by decide +kernel
theorem dX5_ruleAt_37 : decode cX5_ruleAt 37 = .ok (.iinc 2 1, 3) := by decide +kernel
theorem dX5_ruleAt_40 : decode cX5_ruleAt 40 = .ok (.goto (-24), 3) := by decide +kernel
theorem dX5_ruleAt_43 : decode cX5_ruleAt 43 = .ok (.bipush (-9), 2) := by decide +kernel
theorem dX5_ruleAt_45 : decode cX5_ruleAt 45 = .ok (.ireturn, 1) := by decide +kernel
theorem dX5_claim_0 : decode cX5_claim 0 = .ok (.aload_n 0, 1) := by decide +kernel
theorem dX5_claim_1 : decode cX5_claim 1 = .ok (.iload_n 1, 1) := by decide +kernel
theorem dX5_claim_2 : decode cX5_claim 2 = .ok (.invokevirtual 110, 3) := by decide +kernel
theorem dX5_claim_5 : decode cX5_claim 5 = .ok (.ifCond .ne 5, 3) := by decide +kernel
theorem dX5_claim_8 : decode cX5_claim 8 = .ok (.iconst (-1), 1) := by decide +kernel
theorem dX5_claim_9 : decode cX5_claim 9 = .ok (.ireturn, 1) := by decide +kernel
theorem dX5_claim_10 : decode cX5_claim 10 = .ok (.iload_n 2, 1) := by decide +kernel
theorem dX5_claim_11 : decode cX5_claim 11 = .ok (.i2l, 1) := by decide +kernel
theorem dX5_claim_12 : decode cX5_claim 12 = .ok (.lconst 1, 1) := by decide +kernel
theorem dX5_claim_13 : decode cX5_claim 13 = .ok (.ldc2_w 181, 3) := by decide +kernel
theorem dX5_claim_16 : decode cX5_claim 16 = .ok (.invokestatic 70, 3) := by decide +kernel
theorem dX5_claim_19 : decode cX5_claim 19 = .ok (.ifCond .ne 6, 3) := by decide +kernel
theorem dX5_claim_22 : decode cX5_claim 22 = .ok (.bipush (-2), 2) := by decide +kernel
theorem dX5_claim_24 : decode cX5_claim 24 = .ok (.ireturn, 1) := by decide +kernel
theorem dX5_claim_25 : decode cX5_claim 25 = .ok (.aload_n 0, 1) := by decide +kernel
theorem dX5_claim_26 : decode cX5_claim 26 = .ok (.getfield 25, 3) := by decide +kernel
theorem dX5_claim_29 : decode cX5_claim 29 = .ok (.iload_n 1, 1) := by decide +kernel
theorem dX5_claim_30 : decode cX5_claim 30 = .ok (.iaload, 1) := by decide +kernel
theorem dX5_claim_31 : decode cX5_claim 31 = .ok (.istore_n 3, 1) := by decide +kernel
theorem dX5_claim_32 : decode cX5_claim 32 = .ok (.aload_n 0, 1) := by decide +kernel
theorem dX5_claim_33 : decode cX5_claim 33 = .ok (.getfield 25, 3) := by decide +kernel
theorem dX5_claim_36 : decode cX5_claim 36 = .ok (.iload_n 1, 1) := by decide +kernel
theorem dX5_claim_37 : decode cX5_claim 37 = .ok (.iload_n 2, 1) := by decide +kernel
theorem dX5_claim_38 : decode cX5_claim 38 = .ok (.iastore, 1) := by decide +kernel
theorem dX5_claim_39 : decode cX5_claim 39 = .ok (.iload_n 3, 1) := by decide +kernel
theorem dX5_claim_40 : decode cX5_claim 40 = .ok (.ireturn, 1) := by decide +kernel
theorem dX5_allFit_0 : decode cX5_allFit 0 = .ok (.iconst 1, 1) := by decide +kernel
theorem dX5_allFit_1 : decode cX5_allFit 1 = .ok (.istore_n 1, 1) := by decide +kernel
theorem dX5_allFit_2 : decode cX5_allFit 2 = .ok (.iconst 0, 1) := by decide +kernel
theorem dX5_allFit_3 : decode cX5_allFit 3 = .ok (.istore_n 2, 1) := by decide +kernel
theorem dX5_allFit_4 : decode cX5_allFit 4 = .ok (.iload_n 2, 1) := by decide +kernel
theorem dX5_allFit_5 : decode cX5_allFit 5 = .ok (.aload_n 0, 1) := by decide +kernel
theorem dX5_allFit_6 : decode cX5_allFit 6 = .ok (.getfield 105, 3) := by decide +kernel
theorem dX5_allFit_9 : decode cX5_allFit 9 = .ok (.if_icmp .ge 55, 3) := by decide +kernel
theorem dX5_allFit_12 : decode cX5_allFit 12 = .ok (.iload_n 1, 1) := by decide +kernel
theorem dX5_allFit_13 : decode cX5_allFit 13 = .ok (.ifCond .eq 43, 3) := by decide +kernel
theorem dX5_allFit_16 : decode cX5_allFit 16 = .ok (.aload_n 0, 1) := by decide +kernel
theorem dX5_allFit_17 : decode cX5_allFit 17 = .ok (.aload_n 0, 1) := by decide +kernel
theorem dX5_allFit_18 : decode cX5_allFit 18 = .ok (.getfield 34, 3) := by decide +kernel
theorem dX5_allFit_21 : decode cX5_allFit 21 = .ok (.iconst 3, 1) := by decide +kernel
theorem dX5_allFit_22 : decode cX5_allFit 22 = .ok (.iload_n 2, 1) := by decide +kernel
theorem dX5_allFit_23 : decode cX5_allFit 23 = .ok (.imul, 1) := by decide +kernel
theorem dX5_allFit_24 : decode cX5_allFit 24 = .ok (.iaload, 1) := by decide +kernel
theorem dX5_allFit_25 : decode cX5_allFit 25 = .ok (.aload_n 0, 1) := by decide +kernel
theorem dX5_allFit_26 : decode cX5_allFit 26 = .ok (.getfield 34, 3) := by decide +kernel
theorem dX5_allFit_29 : decode cX5_allFit 29 = .ok (.iconst 3, 1) := by decide +kernel
theorem dX5_allFit_30 : decode cX5_allFit 30 = .ok (.iload_n 2, 1) := by decide +kernel
theorem dX5_allFit_31 : decode cX5_allFit 31 = .ok (.imul, 1) := by decide +kernel
theorem dX5_allFit_32 : decode cX5_allFit 32 = .ok (.iconst 1, 1) := by decide +kernel
theorem dX5_allFit_33 : decode cX5_allFit 33 = .ok (.iadd, 1) := by decide +kernel
theorem dX5_allFit_34 : decode cX5_allFit 34 = .ok (.iaload, 1) := by decide +kernel
theorem dX5_allFit_35 : decode cX5_allFit 35 = .ok (.aload_n 0, 1) := by decide +kernel
theorem dX5_allFit_36 : decode cX5_allFit 36 = .ok (.getfield 34, 3) := by decide +kernel
theorem dX5_allFit_39 : decode cX5_allFit 39 = .ok (.iconst 3, 1) := by decide +kernel
theorem dX5_allFit_40 : decode cX5_allFit 40 = .ok (.iload_n 2, 1) := by decide +kernel
theorem dX5_allFit_41 : decode cX5_allFit 41 = .ok (.imul, 1) := by decide +kernel
theorem dX5_allFit_42 : decode cX5_allFit 42 = .ok (.iconst 2, 1) := by decide +kernel
theorem dX5_allFit_43 : decode cX5_allFit 43 = .ok (.iadd, 1) := by decide +kernel
theorem dX5_allFit_44 : decode cX5_allFit 44 = .ok (.iaload, 1) := by decide +kernel
theorem dX5_allFit_45 : decode cX5_allFit 45 = .ok (.iconst 1, 1) := by decide +kernel
theorem dX5_allFit_46 : decode cX5_allFit 46 = .ok (.invokevirtual 150, 3) := by decide +kernel
theorem dX5_allFit_49 : decode cX5_allFit 49 = .ok (.ifCond .eq 7, 3) := by decide +kernel
theorem dX5_allFit_52 : decode cX5_allFit 52 = .ok (.iconst 1, 1) := by decide +kernel
theorem dX5_allFit_53 : decode cX5_allFit 53 = .ok (.goto 4, 3) := by decide +kernel
theorem dX5_allFit_56 : decode cX5_allFit 56 = .ok (.iconst 0, 1) := by decide +kernel
theorem dX5_allFit_57 : decode cX5_allFit 57 = .ok (.istore_n 1, 1) := by decide +kernel
theorem dX5_allFit_58 : decode cX5_allFit 58 = .ok (.iinc 2 1, 3) := by decide +kernel
theorem dX5_allFit_61 : decode cX5_allFit 61 = .ok (.goto (-57), 3) := by decide +kernel
theorem dX5_allFit_64 : decode cX5_allFit 64 = .ok (.iload_n 1, 1) := by decide +kernel
theorem dX5_allFit_65 : decode cX5_allFit 65 = .ok (.ireturn, 1) := by decide +kernel
theorem dX5_fits_0 : decode cX5_fits 0 = .ok (.aload_n 0, 1) := by decide +kernel
theorem dX5_fits_1 : decode cX5_fits 1 = .ok (.invokevirtual 198, 3) := by decide +kernel
theorem dX5_fits_4 : decode cX5_fits 4 = .ok (.ifCond .eq 7, 3) := by decide +kernel
theorem dX5_fits_7 : decode cX5_fits 7 = .ok (.iconst 1, 1) := by decide +kernel
theorem dX5_fits_8 : decode cX5_fits 8 = .ok (.goto 4, 3) := by decide +kernel
theorem dX5_fits_11 : decode cX5_fits 11 = .ok (.iconst 0, 1) := by decide +kernel
theorem dX5_fits_12 : decode cX5_fits 12 = .ok (.ireturn, 1) := by decide +kernel
theorem dX5_mayOf_0 : decode cX5_mayOf 0 = .ok (.aload_n 0, 1) := by decide +kernel
theorem dX5_mayOf_1 : decode cX5_mayOf 1 = .ok (.getfield 25, 3) := by decide +kernel
theorem dX5_mayOf_4 : decode cX5_mayOf 4 = .ok (.iload_n 1, 1) := by decide +kernel
theorem dX5_mayOf_5 : decode cX5_mayOf 5 = .ok (.iaload, 1) := by decide +kernel
theorem dX5_mayOf_6 : decode cX5_mayOf 6 = .ok (.istore_n 2, 1) := by decide +kernel
theorem dX5_mayOf_7 : decode cX5_mayOf 7 = .ok (.iconst 0, 1) := by decide +kernel
theorem dX5_mayOf_8 : decode cX5_mayOf 8 = .ok (.istore_n 3, 1) := by decide +kernel
theorem dX5_mayOf_9 : decode cX5_mayOf 9 = .ok (.iconst 1, 1) := by decide +kernel
theorem dX5_mayOf_10 : decode cX5_mayOf 10 = .ok (.istore 4, 2) := by decide +kernel
theorem dX5_mayOf_12 : decode cX5_mayOf 12 = .ok (.iload 4, 2) := by decide +kernel
theorem dX5_mayOf_14 : decode cX5_mayOf 14 = .ok (.bipush 100, 2) := by decide +kernel
theorem dX5_mayOf_16 : decode cX5_mayOf 16 = .ok (.if_icmp .ge 32, 3) := by decide +kernel
theorem dX5_mayOf_19 : decode cX5_mayOf 19 = .ok (.aload_n 0, 1) := by decide +kernel
theorem dX5_mayOf_20 : decode cX5_mayOf 20 = .ok (.getfield 25, 3) := by decide +kernel
theorem dX5_mayOf_23 : decode cX5_mayOf 23 = .ok (.iload_n 1, 1) := by decide +kernel
theorem dX5_mayOf_24 : decode cX5_mayOf 24 = .ok (.iload 4, 2) := by decide +kernel
theorem dX5_mayOf_26 : decode cX5_mayOf 26 = .ok (.iastore, 1) := by decide +kernel
theorem dX5_mayOf_27 : decode cX5_mayOf 27 = .ok (.iload_n 3, 1) := by decide +kernel
theorem dX5_mayOf_28 : decode cX5_mayOf 28 = .ok (.aload_n 0, 1) := by decide +kernel
theorem dX5_mayOf_29 : decode cX5_mayOf 29 = .ok (.invokevirtual 198, 3) := by decide +kernel
theorem dX5_mayOf_32 : decode cX5_mayOf 32 = .ok (.ifCond .eq 7, 3) := by decide +kernel
theorem dX5_mayOf_35 : decode cX5_mayOf 35 = .ok (.iconst 1, 1) := by decide +kernel
theorem dX5_mayOf_36 : decode cX5_mayOf 36 = .ok (.goto 4, 3) := by decide +kernel
theorem dX5_mayOf_39 : decode cX5_mayOf 39 = .ok (.iconst 0, 1) := by decide +kernel
theorem dX5_mayOf_40 : decode cX5_mayOf 40 = .ok (.iadd, 1) := by decide +kernel
theorem dX5_mayOf_41 : decode cX5_mayOf 41 = .ok (.istore_n 3, 1) := by decide +kernel
theorem dX5_mayOf_42 : decode cX5_mayOf 42 = .ok (.iinc 4 1, 3) := by decide +kernel
theorem dX5_mayOf_45 : decode cX5_mayOf 45 = .ok (.goto (-33), 3) := by decide +kernel
theorem dX5_mayOf_48 : decode cX5_mayOf 48 = .ok (.aload_n 0, 1) := by decide +kernel
theorem dX5_mayOf_49 : decode cX5_mayOf 49 = .ok (.getfield 25, 3) := by decide +kernel
theorem dX5_mayOf_52 : decode cX5_mayOf 52 = .ok (.iload_n 1, 1) := by decide +kernel
theorem dX5_mayOf_53 : decode cX5_mayOf 53 = .ok (.iload_n 2, 1) := by decide +kernel
theorem dX5_mayOf_54 : decode cX5_mayOf 54 = .ok (.iastore, 1) := by decide +kernel
theorem dX5_mayOf_55 : decode cX5_mayOf 55 = .ok (.iload_n 3, 1) := by decide +kernel
theorem dX5_mayOf_56 : decode cX5_mayOf 56 = .ok (.ireturn, 1) := by decide +kernel
theorem dX5_liars_0 : decode cX5_liars 0 = .ok (.iconst 0, 1) := by decide +kernel
theorem dX5_liars_1 : decode cX5_liars 1 = .ok (.istore_n 1, 1) := by decide +kernel
theorem dX5_liars_2 : decode cX5_liars 2 = .ok (.iconst 0, 1) := by decide +kernel
theorem dX5_liars_3 : decode cX5_liars 3 = .ok (.istore_n 2, 1) := by decide +kernel
theorem dX5_liars_4 : decode cX5_liars 4 = .ok (.iload_n 2, 1) := by decide +kernel
theorem dX5_liars_5 : decode cX5_liars 5 = .ok (.aload_n 0, 1) := by decide +kernel
theorem dX5_liars_6 : decode cX5_liars 6 = .ok (.getfield 99, 3) := by decide +kernel
theorem dX5_liars_9 : decode cX5_liars 9 = .ok (.if_icmp .ge 34, 3) := by decide +kernel
theorem dX5_liars_12 : decode cX5_liars 12 = .ok (.aload_n 0, 1) := by decide +kernel
theorem dX5_liars_13 : decode cX5_liars 13 = .ok (.invokevirtual 198, 3) := by decide +kernel
theorem dX5_liars_16 : decode cX5_liars 16 = .ok (.ifCond .ne 27, 3) := by decide +kernel
theorem dX5_liars_19 : decode cX5_liars 19 = .ok (.iload_n 1, 1) := by decide +kernel
theorem dX5_liars_20 : decode cX5_liars 20 = .ok (.aload_n 0, 1) := by decide +kernel
theorem dX5_liars_21 : decode cX5_liars 21 = .ok (.iload_n 2, 1) := by decide +kernel
theorem dX5_liars_22 : decode cX5_liars 22 = .ok (.invokevirtual 202, 3) := by decide +kernel
theorem dX5_liars_25 : decode cX5_liars 25 = .ok (.ifCond .le 9, 3) := by decide +kernel
theorem dX5_liars_28 : decode cX5_liars 28 = .ok (.iconst 1, 1) := by decide +kernel
theorem dX5_liars_29 : decode cX5_liars 29 = .ok (.iload_n 2, 1) := by decide +kernel
theorem dX5_liars_30 : decode cX5_liars 30 = .ok (.ishl, 1) := by decide +kernel
theorem dX5_liars_31 : decode cX5_liars 31 = .ok (.goto 4, 3) := by decide +kernel
theorem dX5_liars_34 : decode cX5_liars 34 = .ok (.iconst 0, 1) := by decide +kernel
theorem dX5_liars_35 : decode cX5_liars 35 = .ok (.ior, 1) := by decide +kernel
theorem dX5_liars_36 : decode cX5_liars 36 = .ok (.istore_n 1, 1) := by decide +kernel
theorem dX5_liars_37 : decode cX5_liars 37 = .ok (.iinc 2 1, 3) := by decide +kernel
theorem dX5_liars_40 : decode cX5_liars 40 = .ok (.goto (-36), 3) := by decide +kernel
theorem dX5_liars_43 : decode cX5_liars 43 = .ok (.iload_n 1, 1) := by decide +kernel
theorem dX5_liars_44 : decode cX5_liars 44 = .ok (.ireturn, 1) := by decide +kernel
theorem dX5_mayWeigh_0 : decode cX5_mayWeigh 0 = .ok (.aload_n 0, 1) := by decide +kernel
theorem dX5_mayWeigh_1 : decode cX5_mayWeigh 1 = .ok (.iload_n 1, 1) := by decide +kernel
theorem dX5_mayWeigh_2 : decode cX5_mayWeigh 2 = .ok (.invokevirtual 110, 3) := by decide +kernel
theorem dX5_mayWeigh_5 : decode cX5_mayWeigh 5 = .ok (.ifCond .eq 11, 3) := by decide +kernel
theorem dX5_mayWeigh_8 : decode cX5_mayWeigh 8 = .ok (.aload_n 0, 1) := by decide +kernel
theorem dX5_mayWeigh_9 : decode cX5_mayWeigh 9 = .ok (.iload_n 1, 1) := by decide +kernel
theorem dX5_mayWeigh_10 : decode cX5_mayWeigh 10 = .ok (.invokevirtual 202, 3) := by decide +kernel
theorem dX5_mayWeigh_13 : decode cX5_mayWeigh 13 = .ok (.goto 4, 3) := by decide +kernel
theorem dX5_mayWeigh_16 : decode cX5_mayWeigh 16 = .ok (.iconst (-1), 1) := by decide +kernel
theorem dX5_mayWeigh_17 : decode cX5_mayWeigh 17 = .ok (.ireturn, 1) := by decide +kernel
theorem dX5_keep_0 : decode cX5_keep 0 = .ok (.iload_n 1, 1) := by decide +kernel
theorem dX5_keep_1 : decode cX5_keep 1 = .ok (.i2l, 1) := by decide +kernel
theorem dX5_keep_2 : decode cX5_keep 2 = .ok (.lconst 0, 1) := by decide +kernel
theorem dX5_keep_3 : decode cX5_keep 3 = .ok (.lconst 1, 1) := by decide +kernel
theorem dX5_keep_4 : decode cX5_keep 4 = .ok (.invokestatic 70, 3) := by decide +kernel
theorem dX5_keep_7 : decode cX5_keep 7 = .ok (.ifCond .ne 5, 3) := by decide +kernel
theorem dX5_keep_10 : decode cX5_keep 10 = .ok (.iconst (-1), 1) := by decide +kernel
theorem dX5_keep_11 : decode cX5_keep 11 = .ok (.ireturn, 1) := by decide +kernel
theorem dX5_keep_12 : decode cX5_keep 12 = .ok (.aload_n 0, 1) := by decide +kernel
theorem dX5_keep_13 : decode cX5_keep 13 = .ok (.getfield 50, 3) := by decide +kernel
theorem dX5_keep_16 : decode cX5_keep 16 = .ok (.iload_n 1, 1) := by decide +kernel
theorem dX5_keep_17 : decode cX5_keep 17 = .ok (.iconst 1, 1) := by decide +kernel
theorem dX5_keep_18 : decode cX5_keep 18 = .ok (.bastore, 1) := by decide +kernel
theorem dX5_keep_19 : decode cX5_keep 19 = .ok (.iconst 0, 1) := by decide +kernel
theorem dX5_keep_20 : decode cX5_keep 20 = .ok (.istore_n 2, 1) := by decide +kernel
theorem dX5_keep_21 : decode cX5_keep 21 = .ok (.iload_n 2, 1) := by decide +kernel
theorem dX5_keep_22 : decode cX5_keep 22 = .ok (.bipush 8, 2) := by decide +kernel
theorem dX5_keep_24 : decode cX5_keep 24 = .ok (.if_icmp .ge 60, 3) := by decide +kernel
theorem dX5_keep_27 : decode cX5_keep 27 = .ok (.aload_n 0, 1) := by decide +kernel
theorem dX5_keep_28 : decode cX5_keep 28 = .ok (.getfield 53, 3) := by decide +kernel
theorem dX5_keep_31 : decode cX5_keep 31 = .ok (.bipush 8, 2) := by decide +kernel
theorem dX5_keep_33 : decode cX5_keep 33 = .ok (.iload_n 1, 1) := by decide +kernel
theorem dX5_keep_34 : decode cX5_keep 34 = .ok (.imul, 1) := by decide +kernel
theorem dX5_keep_35 : decode cX5_keep 35 = .ok (.iload_n 2, 1) := by decide +kernel
theorem dX5_keep_36 : decode cX5_keep 36 = .ok (.iadd, 1) := by decide +kernel
theorem dX5_keep_37 : decode cX5_keep 37 = .ok (.aload_n 0, 1) := by decide +kernel
theorem dX5_keep_38 : decode cX5_keep 38 = .ok (.getfield 28, 3) := by decide +kernel
theorem dX5_keep_41 : decode cX5_keep 41 = .ok (.iload_n 2, 1) := by decide +kernel
theorem dX5_keep_42 : decode cX5_keep 42 = .ok (.iaload, 1) := by decide +kernel
theorem dX5_keep_43 : decode cX5_keep 43 = .ok (.iastore, 1) := by decide +kernel
theorem dX5_keep_44 : decode cX5_keep 44 = .ok (.aload_n 0, 1) := by decide +kernel
theorem dX5_keep_45 : decode cX5_keep 45 = .ok (.getfield 56, 3) := by decide +kernel
theorem dX5_keep_48 : decode cX5_keep 48 = .ok (.bipush 8, 2) := by decide +kernel
theorem dX5_keep_50 : decode cX5_keep 50 = .ok (.iload_n 1, 1) := by decide +kernel
theorem dX5_keep_51 : decode cX5_keep 51 = .ok (.imul, 1) := by decide +kernel
theorem dX5_keep_52 : decode cX5_keep 52 = .ok (.iload_n 2, 1) := by decide +kernel
theorem dX5_keep_53 : decode cX5_keep 53 = .ok (.iadd, 1) := by decide +kernel
theorem dX5_keep_54 : decode cX5_keep 54 = .ok (.aload_n 0, 1) := by decide +kernel
theorem dX5_keep_55 : decode cX5_keep 55 = .ok (.getfield 22, 3) := by decide +kernel
theorem dX5_keep_58 : decode cX5_keep 58 = .ok (.iload_n 2, 1) := by decide +kernel
theorem dX5_keep_59 : decode cX5_keep 59 = .ok (.iaload, 1) := by decide +kernel
theorem dX5_keep_60 : decode cX5_keep 60 = .ok (.iastore, 1) := by decide +kernel
theorem dX5_keep_61 : decode cX5_keep 61 = .ok (.aload_n 0, 1) := by decide +kernel
theorem dX5_keep_62 : decode cX5_keep 62 = .ok (.getfield 59, 3) := by decide +kernel
theorem dX5_keep_65 : decode cX5_keep 65 = .ok (.bipush 8, 2) := by decide +kernel
theorem dX5_keep_67 : decode cX5_keep 67 = .ok (.iload_n 1, 1) := by decide +kernel
theorem dX5_keep_68 : decode cX5_keep 68 = .ok (.imul, 1) := by decide +kernel
theorem dX5_keep_69 : decode cX5_keep 69 = .ok (.iload_n 2, 1) := by decide +kernel
theorem dX5_keep_70 : decode cX5_keep 70 = .ok (.iadd, 1) := by decide +kernel
theorem dX5_keep_71 : decode cX5_keep 71 = .ok (.aload_n 0, 1) := by decide +kernel
theorem dX5_keep_72 : decode cX5_keep 72 = .ok (.getfield 25, 3) := by decide +kernel
theorem dX5_keep_75 : decode cX5_keep 75 = .ok (.iload_n 2, 1) := by decide +kernel
theorem dX5_keep_76 : decode cX5_keep 76 = .ok (.iaload, 1) := by decide +kernel
theorem dX5_keep_77 : decode cX5_keep 77 = .ok (.iastore, 1) := by decide +kernel
theorem dX5_keep_78 : decode cX5_keep 78 = .ok (.iinc 2 1, 3) := by decide +kernel
theorem dX5_keep_81 : decode cX5_keep 81 = .ok (.goto (-60), 3) := by decide +kernel
theorem dX5_keep_84 : decode cX5_keep 84 = .ok (.iconst 0, 1) := by decide +kernel
theorem dX5_keep_85 : decode cX5_keep 85 = .ok (.istore_n 2, 1) := by decide +kernel
theorem dX5_keep_86 : decode cX5_keep 86 = .ok (.iload_n 2, 1) := by decide +kernel
theorem dX5_keep_87 : decode cX5_keep 87 = .ok (.bipush 24, 2) := by decide +kernel
theorem dX5_keep_89 : decode cX5_keep 89 = .ok (.if_icmp .ge 26, 3) := by decide +kernel
theorem dX5_keep_92 : decode cX5_keep 92 = .ok (.aload_n 0, 1) := by decide +kernel
theorem dX5_keep_93 : decode cX5_keep 93 = .ok (.getfield 62, 3) := by decide +kernel
theorem dX5_keep_96 : decode cX5_keep 96 = .ok (.bipush 24, 2) := by decide +kernel
theorem dX5_keep_98 : decode cX5_keep 98 = .ok (.iload_n 1, 1) := by decide +kernel
theorem dX5_keep_99 : decode cX5_keep 99 = .ok (.imul, 1) := by decide +kernel
theorem dX5_keep_100 : decode cX5_keep 100 = .ok (.iload_n 2, 1) := by decide +kernel
theorem dX5_keep_101 : decode cX5_keep 101 = .ok (.iadd, 1) := by decide +kernel
theorem dX5_keep_102 : decode cX5_keep 102 = .ok (.aload_n 0, 1) := by decide +kernel
theorem dX5_keep_103 : decode cX5_keep 103 = .ok (.getfield 34, 3) := by decide +kernel
theorem dX5_keep_106 : decode cX5_keep 106 = .ok (.iload_n 2, 1) := by decide +kernel
theorem dX5_keep_107 : decode cX5_keep 107 = .ok (.iaload, 1) := by decide +kernel
theorem dX5_keep_108 : decode cX5_keep 108 = .ok (.iastore, 1) := by decide +kernel
theorem dX5_keep_109 : decode cX5_keep 109 = .ok (.iinc 2 1, 3) := by decide +kernel
theorem dX5_keep_112 : decode cX5_keep 112 = .ok (.goto (-26), 3) := by decide +kernel
theorem dX5_keep_115 : decode cX5_keep 115 = .ok (.aload_n 0, 1) := by decide +kernel
theorem dX5_keep_116 : decode cX5_keep 116 = .ok (.getfield 65, 3) := by decide +kernel
theorem dX5_keep_119 : decode cX5_keep 119 = .ok (.iconst 2, 1) := by decide +kernel
theorem dX5_keep_120 : decode cX5_keep 120 = .ok (.iload_n 1, 1) := by decide +kernel
theorem dX5_keep_121 : decode cX5_keep 121 = .ok (.imul, 1) := by decide +kernel
theorem dX5_keep_122 : decode cX5_keep 122 = .ok (.aload_n 0, 1) := by decide +kernel
theorem dX5_keep_123 : decode cX5_keep 123 = .ok (.getfield 105, 3) := by decide +kernel
theorem dX5_keep_126 : decode cX5_keep 126 = .ok (.iastore, 1) := by decide +kernel
theorem dX5_keep_127 : decode cX5_keep 127 = .ok (.aload_n 0, 1) := by decide +kernel
theorem dX5_keep_128 : decode cX5_keep 128 = .ok (.getfield 65, 3) := by decide +kernel
theorem dX5_keep_131 : decode cX5_keep 131 = .ok (.iconst 2, 1) := by decide +kernel
theorem dX5_keep_132 : decode cX5_keep 132 = .ok (.iload_n 1, 1) := by decide +kernel
theorem dX5_keep_133 : decode cX5_keep 133 = .ok (.imul, 1) := by decide +kernel
theorem dX5_keep_134 : decode cX5_keep 134 = .ok (.iconst 1, 1) := by decide +kernel
theorem dX5_keep_135 : decode cX5_keep 135 = .ok (.iadd, 1) := by decide +kernel
theorem dX5_keep_136 : decode cX5_keep 136 = .ok (.aload_n 0, 1) := by decide +kernel
theorem dX5_keep_137 : decode cX5_keep 137 = .ok (.getfield 102, 3) := by decide +kernel
theorem dX5_keep_140 : decode cX5_keep 140 = .ok (.iastore, 1) := by decide +kernel
theorem dX5_keep_141 : decode cX5_keep 141 = .ok (.aload_n 0, 1) := by decide +kernel
theorem dX5_keep_142 : decode cX5_keep 142 = .ok (.getfield 105, 3) := by decide +kernel
theorem dX5_keep_145 : decode cX5_keep 145 = .ok (.ireturn, 1) := by decide +kernel
theorem dX5_again_0 : decode cX5_again 0 = .ok (.iload_n 1, 1) := by decide +kernel
theorem dX5_again_1 : decode cX5_again 1 = .ok (.i2l, 1) := by decide +kernel
theorem dX5_again_2 : decode cX5_again 2 = .ok (.lconst 0, 1) := by decide +kernel
theorem dX5_again_3 : decode cX5_again 3 = .ok (.lconst 1, 1) := by decide +kernel
theorem dX5_again_4 : decode cX5_again 4 = .ok (.invokestatic 70, 3) := by decide +kernel
theorem dX5_again_7 : decode cX5_again 7 = .ok (.ifCond .ne 5, 3) := by decide +kernel
theorem dX5_again_10 : decode cX5_again 10 = .ok (.iconst (-1), 1) := by decide +kernel
theorem dX5_again_11 : decode cX5_again 11 = .ok (.ireturn, 1) := by decide +kernel
theorem dX5_again_12 : decode cX5_again 12 = .ok (.aload_n 0, 1) := by decide +kernel
theorem dX5_again_13 : decode cX5_again 13 = .ok (.getfield 50, 3) := by decide +kernel
theorem dX5_again_16 : decode cX5_again 16 = .ok (.iload_n 1, 1) := by decide +kernel
theorem dX5_again_17 : decode cX5_again 17 = .ok (.baload, 1) := by decide +kernel
theorem dX5_again_18 : decode cX5_again 18 = .ok (.ifCond .ne 6, 3) := by decide +kernel
theorem dX5_again_21 : decode cX5_again 21 = .ok (.bipush (-3), 2) := by decide +kernel
theorem dX5_again_23 : decode cX5_again 23 = .ok (.ireturn, 1) := by decide +kernel
theorem dX5_again_24 : decode cX5_again 24 = .ok (.iconst 0, 1) := by decide +kernel
theorem dX5_again_25 : decode cX5_again 25 = .ok (.istore_n 2, 1) := by decide +kernel
theorem dX5_again_26 : decode cX5_again 26 = .ok (.iload_n 2, 1) := by decide +kernel
theorem dX5_again_27 : decode cX5_again 27 = .ok (.bipush 8, 2) := by decide +kernel
theorem dX5_again_29 : decode cX5_again 29 = .ok (.if_icmp .ge 60, 3) := by decide +kernel
theorem dX5_again_32 : decode cX5_again 32 = .ok (.aload_n 0, 1) := by decide +kernel
theorem dX5_again_33 : decode cX5_again 33 = .ok (.getfield 28, 3) := by decide +kernel
theorem dX5_again_36 : decode cX5_again 36 = .ok (.iload_n 2, 1) := by decide +kernel
theorem dX5_again_37 : decode cX5_again 37 = .ok (.aload_n 0, 1) := by decide +kernel
theorem dX5_again_38 : decode cX5_again 38 = .ok (.getfield 53, 3) := by decide +kernel
theorem dX5_again_41 : decode cX5_again 41 = .ok (.bipush 8, 2) := by decide +kernel
theorem dX5_again_43 : decode cX5_again 43 = .ok (.iload_n 1, 1) := by decide +kernel
theorem dX5_again_44 : decode cX5_again 44 = .ok (.imul, 1) := by decide +kernel
theorem dX5_again_45 : decode cX5_again 45 = .ok (.iload_n 2, 1) := by decide +kernel
theorem dX5_again_46 : decode cX5_again 46 = .ok (.iadd, 1) := by decide +kernel
theorem dX5_again_47 : decode cX5_again 47 = .ok (.iaload, 1) := by decide +kernel
theorem dX5_again_48 : decode cX5_again 48 = .ok (.iastore, 1) := by decide +kernel
theorem dX5_again_49 : decode cX5_again 49 = .ok (.aload_n 0, 1) := by decide +kernel
theorem dX5_again_50 : decode cX5_again 50 = .ok (.getfield 22, 3) := by decide +kernel
theorem dX5_again_53 : decode cX5_again 53 = .ok (.iload_n 2, 1) := by decide +kernel
theorem dX5_again_54 : decode cX5_again 54 = .ok (.aload_n 0, 1) := by decide +kernel
theorem dX5_again_55 : decode cX5_again 55 = .ok (.getfield 56, 3) := by decide +kernel
theorem dX5_again_58 : decode cX5_again 58 = .ok (.bipush 8, 2) := by decide +kernel
theorem dX5_again_60 : decode cX5_again 60 = .ok (.iload_n 1, 1) := by decide +kernel
theorem dX5_again_61 : decode cX5_again 61 = .ok (.imul, 1) := by decide +kernel
theorem dX5_again_62 : decode cX5_again 62 = .ok (.iload_n 2, 1) := by decide +kernel
theorem dX5_again_63 : decode cX5_again 63 = .ok (.iadd, 1) := by decide +kernel
theorem dX5_again_64 : decode cX5_again 64 = .ok (.iaload, 1) := by decide +kernel
theorem dX5_again_65 : decode cX5_again 65 = .ok (.iastore, 1) := by decide +kernel
theorem dX5_again_66 : decode cX5_again 66 = .ok (.aload_n 0, 1) := by decide +kernel
theorem dX5_again_67 : decode cX5_again 67 = .ok (.getfield 25, 3) := by decide +kernel
theorem dX5_again_70 : decode cX5_again 70 = .ok (.iload_n 2, 1) := by decide +kernel
theorem dX5_again_71 : decode cX5_again 71 = .ok (.aload_n 0, 1) := by decide +kernel
theorem dX5_again_72 : decode cX5_again 72 = .ok (.getfield 59, 3) := by decide +kernel
theorem dX5_again_75 : decode cX5_again 75 = .ok (.bipush 8, 2) := by decide +kernel
theorem dX5_again_77 : decode cX5_again 77 = .ok (.iload_n 1, 1) := by decide +kernel
theorem dX5_again_78 : decode cX5_again 78 = .ok (.imul, 1) := by decide +kernel
theorem dX5_again_79 : decode cX5_again 79 = .ok (.iload_n 2, 1) := by decide +kernel
theorem dX5_again_80 : decode cX5_again 80 = .ok (.iadd, 1) := by decide +kernel
theorem dX5_again_81 : decode cX5_again 81 = .ok (.iaload, 1) := by decide +kernel
theorem dX5_again_82 : decode cX5_again 82 = .ok (.iastore, 1) := by decide +kernel
theorem dX5_again_83 : decode cX5_again 83 = .ok (.iinc 2 1, 3) := by decide +kernel
theorem dX5_again_86 : decode cX5_again 86 = .ok (.goto (-60), 3) := by decide +kernel
theorem dX5_again_89 : decode cX5_again 89 = .ok (.iconst 0, 1) := by decide +kernel
theorem dX5_again_90 : decode cX5_again 90 = .ok (.istore_n 2, 1) := by decide +kernel
theorem dX5_again_91 : decode cX5_again 91 = .ok (.iload_n 2, 1) := by decide +kernel
theorem dX5_again_92 : decode cX5_again 92 = .ok (.bipush 24, 2) := by decide +kernel
theorem dX5_again_94 : decode cX5_again 94 = .ok (.if_icmp .ge 26, 3) := by decide +kernel
theorem dX5_again_97 : decode cX5_again 97 = .ok (.aload_n 0, 1) := by decide +kernel
theorem dX5_again_98 : decode cX5_again 98 = .ok (.getfield 34, 3) := by decide +kernel
theorem dX5_again_101 : decode cX5_again 101 = .ok (.iload_n 2, 1) := by decide +kernel
theorem dX5_again_102 : decode cX5_again 102 = .ok (.aload_n 0, 1) := by decide +kernel
theorem dX5_again_103 : decode cX5_again 103 = .ok (.getfield 62, 3) := by decide +kernel
theorem dX5_again_106 : decode cX5_again 106 = .ok (.bipush 24, 2) := by decide +kernel
theorem dX5_again_108 : decode cX5_again 108 = .ok (.iload_n 1, 1) := by decide +kernel
theorem dX5_again_109 : decode cX5_again 109 = .ok (.imul, 1) := by decide +kernel
theorem dX5_again_110 : decode cX5_again 110 = .ok (.iload_n 2, 1) := by decide +kernel
theorem dX5_again_111 : decode cX5_again 111 = .ok (.iadd, 1) := by decide +kernel
theorem dX5_again_112 : decode cX5_again 112 = .ok (.iaload, 1) := by decide +kernel
theorem dX5_again_113 : decode cX5_again 113 = .ok (.iastore, 1) := by decide +kernel
theorem dX5_again_114 : decode cX5_again 114 = .ok (.iinc 2 1, 3) := by decide +kernel
theorem dX5_again_117 : decode cX5_again 117 = .ok (.goto (-26), 3) := by decide +kernel
theorem dX5_again_120 : decode cX5_again 120 = .ok (.aload_n 0, 1) := by decide +kernel
theorem dX5_again_121 : decode cX5_again 121 = .ok (.aload_n 0, 1) := by decide +kernel
theorem dX5_again_122 : decode cX5_again 122 = .ok (.getfield 65, 3) := by decide +kernel
theorem dX5_again_125 : decode cX5_again 125 = .ok (.iconst 2, 1) := by decide +kernel
theorem dX5_again_126 : decode cX5_again 126 = .ok (.iload_n 1, 1) := by decide +kernel
theorem dX5_again_127 : decode cX5_again 127 = .ok (.imul, 1) := by decide +kernel
theorem dX5_again_128 : decode cX5_again 128 = .ok (.iaload, 1) := by decide +kernel
theorem dX5_again_129 : decode cX5_again 129 = .ok (.putfield 105, 3) := by decide +kernel
theorem dX5_again_132 : decode cX5_again 132 = .ok (.aload_n 0, 1) := by decide +kernel
theorem dX5_again_133 : decode cX5_again 133 = .ok (.aload_n 0, 1) := by decide +kernel
theorem dX5_again_134 : decode cX5_again 134 = .ok (.getfield 65, 3) := by decide +kernel
theorem dX5_again_137 : decode cX5_again 137 = .ok (.iconst 2, 1) := by decide +kernel
theorem dX5_again_138 : decode cX5_again 138 = .ok (.iload_n 1, 1) := by decide +kernel
theorem dX5_again_139 : decode cX5_again 139 = .ok (.imul, 1) := by decide +kernel
theorem dX5_again_140 : decode cX5_again 140 = .ok (.iconst 1, 1) := by decide +kernel
theorem dX5_again_141 : decode cX5_again 141 = .ok (.iadd, 1) := by decide +kernel
theorem dX5_again_142 : decode cX5_again 142 = .ok (.iaload, 1) := by decide +kernel
theorem dX5_again_143 : decode cX5_again 143 = .ok (.putfield 102, 3) := by decide +kernel
theorem dX5_again_146 : decode cX5_again 146 = .ok (.aload_n 0, 1) := by decide +kernel
theorem dX5_again_147 : decode cX5_again 147 = .ok (.getfield 105, 3) := by decide +kernel
theorem dX5_again_150 : decode cX5_again 150 = .ok (.ireturn, 1) := by decide +kernel
theorem dX5_count_0 : decode cX5_count 0 = .ok (.iconst 0, 1) := by decide +kernel
theorem dX5_count_1 : decode cX5_count 1 = .ok (.istore_n 2, 1) := by decide +kernel
theorem dX5_count_2 : decode cX5_count 2 = .ok (.iconst 0, 1) := by decide +kernel
theorem dX5_count_3 : decode cX5_count 3 = .ok (.istore_n 3, 1) := by decide +kernel
theorem dX5_count_4 : decode cX5_count 4 = .ok (.iload_n 3, 1) := by decide +kernel
theorem dX5_count_5 : decode cX5_count 5 = .ok (.aload_n 0, 1) := by decide +kernel
theorem dX5_count_6 : decode cX5_count 6 = .ok (.getfield 105, 3) := by decide +kernel
theorem dX5_count_9 : decode cX5_count 9 = .ok (.if_icmp .ge 46, 3) := by decide +kernel
theorem dX5_count_12 : decode cX5_count 12 = .ok (.iload_n 2, 1) := by decide +kernel
theorem dX5_count_13 : decode cX5_count 13 = .ok (.aload_n 0, 1) := by decide +kernel
theorem dX5_count_14 : decode cX5_count 14 = .ok (.aload_n 0, 1) := by decide +kernel
theorem dX5_count_15 : decode cX5_count 15 = .ok (.getfield 34, 3) := by decide +kernel
theorem dX5_count_18 : decode cX5_count 18 = .ok (.iconst 3, 1) := by decide +kernel
theorem dX5_count_19 : decode cX5_count 19 = .ok (.iload_n 3, 1) := by decide +kernel
theorem dX5_count_20 : decode cX5_count 20 = .ok (.imul, 1) := by decide +kernel
theorem dX5_count_21 : decode cX5_count 21 = .ok (.iaload, 1) := by decide +kernel
theorem dX5_count_22 : decode cX5_count 22 = .ok (.aload_n 0, 1) := by decide +kernel
theorem dX5_count_23 : decode cX5_count 23 = .ok (.getfield 34, 3) := by decide +kernel
theorem dX5_count_26 : decode cX5_count 26 = .ok (.iconst 3, 1) := by decide +kernel
theorem dX5_count_27 : decode cX5_count 27 = .ok (.iload_n 3, 1) := by decide +kernel
theorem dX5_count_28 : decode cX5_count 28 = .ok (.imul, 1) := by decide +kernel
theorem dX5_count_29 : decode cX5_count 29 = .ok (.iconst 1, 1) := by decide +kernel
theorem dX5_count_30 : decode cX5_count 30 = .ok (.iadd, 1) := by decide +kernel
theorem dX5_count_31 : decode cX5_count 31 = .ok (.iaload, 1) := by decide +kernel
theorem dX5_count_32 : decode cX5_count 32 = .ok (.ior, 1) := by decide +kernel
theorem dX5_count_33 : decode cX5_count 33 = .ok (.aload_n 0, 1) := by decide +kernel
theorem dX5_count_34 : decode cX5_count 34 = .ok (.getfield 34, 3) := by decide +kernel
theorem dX5_count_37 : decode cX5_count 37 = .ok (.iconst 3, 1) := by decide +kernel
theorem dX5_count_38 : decode cX5_count 38 = .ok (.iload_n 3, 1) := by decide +kernel
theorem dX5_count_39 : decode cX5_count 39 = .ok (.imul, 1) := by decide +kernel
theorem dX5_count_40 : decode cX5_count 40 = .ok (.iconst 2, 1) := by decide +kernel
theorem dX5_count_41 : decode cX5_count 41 = .ok (.iadd, 1) := by decide +kernel
theorem dX5_count_42 : decode cX5_count 42 = .ok (.iaload, 1) := by decide +kernel
theorem dX5_count_43 : decode cX5_count 43 = .ok (.ior, 1) := by decide +kernel
theorem dX5_count_44 : decode cX5_count 44 = .ok (.invokevirtual 154, 3) := by decide +kernel
theorem dX5_count_47 : decode cX5_count 47 = .ok (.iadd, 1) := by decide +kernel
theorem dX5_count_48 : decode cX5_count 48 = .ok (.istore_n 2, 1) := by decide +kernel
theorem dX5_count_49 : decode cX5_count 49 = .ok (.iinc 3 1, 3) := by decide +kernel
theorem dX5_count_52 : decode cX5_count 52 = .ok (.goto (-48), 3) := by decide +kernel
theorem dX5_count_55 : decode cX5_count 55 = .ok (.iload_n 1, 1) := by decide +kernel
theorem dX5_count_56 : decode cX5_count 56 = .ok (.tableswitch 84 0 6 #[44, 49, 54, 62, 67, 77, 82], 44) := by decide +kernel
theorem dX5_count_100 : decode cX5_count 100 = .ok (.aload_n 0, 1) := by decide +kernel
theorem dX5_count_101 : decode cX5_count 101 = .ok (.getfield 74, 3) := by decide +kernel
theorem dX5_count_104 : decode cX5_count 104 = .ok (.ireturn, 1) := by decide +kernel
theorem dX5_count_105 : decode cX5_count 105 = .ok (.aload_n 0, 1) := by decide +kernel
theorem dX5_count_106 : decode cX5_count 106 = .ok (.getfield 99, 3) := by decide +kernel
theorem dX5_count_109 : decode cX5_count 109 = .ok (.ireturn, 1) := by decide +kernel
theorem dX5_count_110 : decode cX5_count 110 = .ok (.aload_n 0, 1) := by decide +kernel
theorem dX5_count_111 : decode cX5_count 111 = .ok (.invokevirtual 183, 3) := by decide +kernel
theorem dX5_count_114 : decode cX5_count 114 = .ok (.invokestatic 128, 3) := by decide +kernel
theorem dX5_count_117 : decode cX5_count 117 = .ok (.ireturn, 1) := by decide +kernel
theorem dX5_count_118 : decode cX5_count 118 = .ok (.aload_n 0, 1) := by decide +kernel
theorem dX5_count_119 : decode cX5_count 119 = .ok (.invokevirtual 131, 3) := by decide +kernel
theorem dX5_count_122 : decode cX5_count 122 = .ok (.ireturn, 1) := by decide +kernel
theorem dX5_count_123 : decode cX5_count 123 = .ok (.aload_n 0, 1) := by decide +kernel
theorem dX5_count_124 : decode cX5_count 124 = .ok (.bipush 20, 2) := by decide +kernel
theorem dX5_count_126 : decode cX5_count 126 = .ok (.invokevirtual 125, 3) := by decide +kernel
theorem dX5_count_129 : decode cX5_count 129 = .ok (.invokestatic 128, 3) := by decide +kernel
theorem dX5_count_132 : decode cX5_count 132 = .ok (.ireturn, 1) := by decide +kernel
theorem dX5_count_133 : decode cX5_count 133 = .ok (.aload_n 0, 1) := by decide +kernel
theorem dX5_count_134 : decode cX5_count 134 = .ok (.getfield 105, 3) := by decide +kernel
theorem dX5_count_137 : decode cX5_count 137 = .ok (.ireturn, 1) := by decide +kernel
theorem dX5_count_138 : decode cX5_count 138 = .ok (.iload_n 2, 1) := by decide +kernel
theorem dX5_count_139 : decode cX5_count 139 = .ok (.ireturn, 1) := by decide +kernel
theorem dX5_count_140 : decode cX5_count 140 = .ok (.bipush (-2), 2) := by decide +kernel
theorem dX5_count_142 : decode cX5_count 142 = .ok (.ireturn, 1) := by decide +kernel
