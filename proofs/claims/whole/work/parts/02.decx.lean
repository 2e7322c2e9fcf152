theorem dX0_init_0 : decode cX0_init 0 = .ok (.aload_n 0, 1) := by decide +kernel
theorem dX0_init_1 : decode cX0_init 1 = .ok (.invokespecial 3, 3) := by decide +kernel
theorem dX0_init_4 : decode cX0_init 4 = .ok (.aload_n 0, 1) := by decide +kernel
theorem dX0_init_5 : decode cX0_init 5 = .ok (.iconst 2, 1) := by decide +kernel
theorem dX0_init_6 : decode cX0_init 6 = .ok (.putfield 9, 3) := by decide +kernel
theorem dX0_init_9 : decode cX0_init 9 = .ok (.aload_n 0, 1) := by decide +kernel
theorem dX0_init_10 : decode cX0_init 10 = .ok (.iconst 1, 1) := by decide +kernel
theorem dX0_init_11 : decode cX0_init 11 = .ok (.putfield 15, 3) := by decide +kernel
theorem dX0_init_14 : decode cX0_init 14 = .ok (.aload_n 0, 1) := by decide +kernel
theorem dX0_init_15 : decode cX0_init 15 = .ok (.iconst 1, 1) := by decide +kernel
theorem dX0_init_16 : decode cX0_init 16 = .ok (.putfield 18, 3) := by decide +kernel
theorem dX0_init_19 : decode cX0_init 19 = .ok (.aload_n 0, 1) := by decide +kernel
theorem dX0_init_20 : decode cX0_init 20 = .ok (.bipush 8, 2) := by decide +kernel
theorem dX0_init_22 : decode cX0_init 22 = .ok (.putfield 21, 3) := by decide +kernel
theorem dX0_init_25 : decode cX0_init 25 = .ok (.aload_n 0, 1) := by decide +kernel
theorem dX0_init_26 : decode cX0_init 26 = .ok (.iconst 0, 1) := by decide +kernel
theorem dX0_init_27 : decode cX0_init 27 = .ok (.putfield 24, 3) := by decide +kernel
theorem dX0_init_30 : decode cX0_init 30 = .ok (.aload_n 0, 1) := by decide +kernel
theorem dX0_init_31 : decode cX0_init 31 = .ok (.iconst 0, 1) := by decide +kernel
theorem dX0_init_32 : decode cX0_init 32 = .ok (.putfield 27, 3) := by decide +kernel
theorem dX0_init_35 : decode cX0_init 35 = .ok (.aload_n 0, 1) := by decide +kernel
theorem dX0_init_36 : decode cX0_init 36 = .ok (.bipush 8, 2) := by decide +kernel
theorem dX0_init_38 : decode cX0_init 38 = .ok (.newarray .int, 2) := by decide +kernel
theorem dX0_init_40 : decode cX0_init 40 = .ok (.putfield 30, 3) := by decide +kernel
theorem dX0_init_43 : decode cX0_init 43 = .ok (.aload_n 0, 1) := by decide +kernel
theorem dX0_init_44 : decode cX0_init 44 = .ok (.bipush 8, 2) := by decide +kernel
theorem dX0_init_46 : decode cX0_init 46 = .ok (.newarray .int, 2) := by decide +kernel
theorem dX0_init_48 : decode cX0_init 48 = .ok (.putfield 34, 3) := by decide +kernel
theorem dX0_init_51 : decode cX0_init 51 = .ok (.aload_n 0, 1) := by decide +kernel
theorem dX0_init_52 : decode cX0_init 52 = .ok (.bipush 8, 2) := by decide +kernel
theorem dX0_init_54 : decode cX0_init 54 = .ok (.newarray .int, 2) := by decide +kernel
theorem dX0_init_56 : decode cX0_init 56 = .ok (.putfield 37, 3) := by decide +kernel
theorem dX0_init_59 : decode cX0_init 59 = .ok (.return_, 1) := by decide +kernel
theorem dX0_readFrom_0 : decode cX0_readFrom 0 = .ok (.aload_n 0, 1) := by decide +kernel
theorem dX0_readFrom_1 : decode cX0_readFrom 1 = .ok (.aload_n 1, 1) := by decide +kernel
theorem dX0_readFrom_2 : decode cX0_readFrom 2 = .ok (.iconst 1, 1) := by decide +kernel
theorem dX0_readFrom_3 : decode cX0_readFrom 3 = .ok (.invokevirtual 40, 3) := by decide +kernel
theorem dX0_readFrom_6 : decode cX0_readFrom 6 = .ok (.putfield 9, 3) := by decide +kernel
theorem dX0_readFrom_9 : decode cX0_readFrom 9 = .ok (.aload_n 0, 1) := by decide +kernel
theorem dX0_readFrom_10 : decode cX0_readFrom 10 = .ok (.aload_n 1, 1) := by decide +kernel
theorem dX0_readFrom_11 : decode cX0_readFrom 11 = .ok (.iconst 2, 1) := by decide +kernel
theorem dX0_readFrom_12 : decode cX0_readFrom 12 = .ok (.invokevirtual 40, 3) := by decide +kernel
theorem dX0_readFrom_15 : decode cX0_readFrom 15 = .ok (.putfield 15, 3) := by decide +kernel
theorem dX0_readFrom_18 : decode cX0_readFrom 18 = .ok (.aload_n 0, 1) := by decide +kernel
theorem dX0_readFrom_19 : decode cX0_readFrom 19 = .ok (.aload_n 1, 1) := by decide +kernel
theorem dX0_readFrom_20 : decode cX0_readFrom 20 = .ok (.iconst 3, 1) := by decide +kernel
theorem dX0_readFrom_21 : decode cX0_readFrom 21 = .ok (.invokevirtual 40, 3) := by decide +kernel
theorem dX0_readFrom_24 : decode cX0_readFrom 24 = .ok (.putfield 18, 3) := by decide +kernel
theorem dX0_readFrom_27 : decode cX0_readFrom 27 = .ok (.aload_n 0, 1) := by decide +kernel
theorem dX0_readFrom_28 : decode cX0_readFrom 28 = .ok (.aload_n 1, 1) := by decide +kernel
theorem dX0_readFrom_29 : decode cX0_readFrom 29 = .ok (.iconst 4, 1) := by decide +kernel
theorem dX0_readFrom_30 : decode cX0_readFrom 30 = .ok (.invokevirtual 40, 3) := by decide +kernel
theorem dX0_readFrom_33 : decode cX0_readFrom 33 = .ok (.putfield 21, 3) := by decide +kernel
theorem dX0_readFrom_36 : decode cX0_readFrom 36 = .ok (.aload_n 0, 1) := by decide +kernel
theorem dX0_readFrom_37 : decode cX0_readFrom 37 = .ok (.aload_n 1, 1) := by decide +kernel
theorem dX0_readFrom_38 : decode cX0_readFrom 38 = .ok (.iconst 5, 1) := by decide +kernel
theorem dX0_readFrom_39 : decode cX0_readFrom 39 = .ok (.invokevirtual 40, 3) := by decide +kernel
theorem dX0_readFrom_42 : decode cX0_readFrom 42 = .ok (.putfield 24, 3) := by decide +kernel
theorem dX0_readFrom_45 : decode cX0_readFrom 45 = .ok (.aload_n 0, 1) := by decide +kernel
theorem dX0_readFrom_46 : decode cX0_readFrom 46 = .ok (.bipush 8, 2) := by decide +kernel
theorem dX0_readFrom_48 : decode cX0_readFrom 48 = .ok (.aload_n 1, 1) := by decide +kernel
theorem dX0_readFrom_49 : decode cX0_readFrom 49 = .ok (.getfield 46, 3) := by decide +kernel
theorem dX0_readFrom_52 : decode cX0_readFrom 52 = .ok (.bipush 6, 2) := by decide +kernel
theorem dX0_readFrom_54 : decode cX0_readFrom 54 = .ok (.isub, 1) := by decide +kernel
theorem dX0_readFrom_55 : decode cX0_readFrom 55 = .ok (.iconst 5, 1) := by decide +kernel
theorem dX0_readFrom_56 : decode cX0_readFrom 56 = .ok (.idiv, 1) := by decide +kernel
theorem dX0_readFrom_57 : decode cX0_readFrom 57 = .ok (.invokestatic 49, 3) := by decide +kernel
theorem dX0_readFrom_60 : decode cX0_readFrom 60 = .ok (.putfield 27, 3) := by decide +kernel
theorem dX0_readFrom_63 : decode cX0_readFrom 63 = .ok (.iconst 0, 1) := by decide +kernel
theorem dX0_readFrom_64 : decode cX0_readFrom 64 = .ok (.istore_n 2, 1) := by decide +kernel
theorem dX0_readFrom_65 : decode cX0_readFrom 65 = .ok (.iload_n 2, 1) := by decide +kernel
theorem dX0_readFrom_66 : decode cX0_readFrom 66 = .ok (.aload_n 0, 1) := by decide +kernel
theorem dX0_readFrom_67 : decode cX0_readFrom 67 = .ok (.getfield 27, 3) := by decide +kernel
theorem dX0_readFrom_70 : decode cX0_readFrom 70 = .ok (.if_icmp .ge 66, 3) := by decide +kernel
theorem dX0_readFrom_73 : decode cX0_readFrom 73 = .ok (.bipush 6, 2) := by decide +kernel
theorem dX0_readFrom_75 : decode cX0_readFrom 75 = .ok (.iload_n 2, 1) := by decide +kernel
theorem dX0_readFrom_76 : decode cX0_readFrom 76 = .ok (.iconst 5, 1) := by decide +kernel
theorem dX0_readFrom_77 : decode cX0_readFrom 77 = .ok (.imul, 1) := by decide +kernel
theorem dX0_readFrom_78 : decode cX0_readFrom 78 = .ok (.iadd, 1) := by decide +kernel
theorem dX0_readFrom_79 : decode cX0_readFrom 79 = .ok (.istore_n 3, 1) := by decide +kernel
theorem dX0_readFrom_80 : decode cX0_readFrom 80 = .ok (.aload_n 0, 1) := by decide +kernel
theorem dX0_readFrom_81 : decode cX0_readFrom 81 = .ok (.getfield 30, 3) := by decide +kernel
theorem dX0_readFrom_84 : decode cX0_readFrom 84 = .ok (.iload_n 2, 1) := by decide +kernel
theorem dX0_readFrom_85 : decode cX0_readFrom 85 = .ok (.bipush 10, 2) := by decide +kernel
theorem dX0_readFrom_87 : decode cX0_readFrom 87 = .ok (.aload_n 1, 1) := by decide +kernel
theorem dX0_readFrom_88 : decode cX0_readFrom 88 = .ok (.iload_n 3, 1) := by decide +kernel
theorem dX0_readFrom_89 : decode cX0_readFrom 89 = .ok (.iconst 1, 1) := by decide +kernel
theorem dX0_readFrom_90 : decode cX0_readFrom 90 = .ok (.iadd, 1) := by decide +kernel
theorem dX0_readFrom_91 : decode cX0_readFrom 91 = .ok (.invokevirtual 40, 3) := by decide +kernel
theorem dX0_readFrom_94 : decode cX0_readFrom 94 = .ok (.imul, 1) := by decide +kernel
theorem dX0_readFrom_95 : decode cX0_readFrom 95 = .ok (.aload_n 1, 1) := by decide +kernel
theorem dX0_readFrom_96 : decode cX0_readFrom 96 = .ok (.iload_n 3, 1) := by decide +kernel
theorem dX0_readFrom_97 : decode cX0_readFrom 97 = .ok (.iconst 2, 1) := by decide +kernel
theorem dX0_readFrom_98 : decode cX0_readFrom 98 = .ok (.iadd, 1) := by decide +kernel
theorem dX0_readFrom_99 : decode cX0_readFrom 99 = .ok (.invokevirtual 40, 3) := by decide +kernel
theorem dX0_readFrom_102 : decode cX0_readFrom 102 = .ok (.iadd, 1) := by decide +kernel
theorem dX0_readFrom_103 : decode cX0_readFrom 103 = .ok (.iastore, 1) := by decide +kernel
theorem dX0_readFrom_104 : decode cX0_readFrom 104 = .ok (.aload_n 0, 1) := by decide +kernel
theorem dX0_readFrom_105 : decode cX0_readFrom 105 = .ok (.getfield 34, 3) := by decide +kernel
theorem dX0_readFrom_108 : decode cX0_readFrom 108 = .ok (.iload_n 2, 1) := by decide +kernel
theorem dX0_readFrom_109 : decode cX0_readFrom 109 = .ok (.aload_n 1, 1) := by decide +kernel
theorem dX0_readFrom_110 : decode cX0_readFrom 110 = .ok (.iload_n 3, 1) := by decide +kernel
theorem dX0_readFrom_111 : decode cX0_readFrom 111 = .ok (.iconst 3, 1) := by decide +kernel
theorem dX0_readFrom_112 : decode cX0_readFrom 112 = .ok (.iadd, 1) := by decide +kernel
theorem dX0_readFrom_113 : decode cX0_readFrom 113 = .ok (.invokevirtual 40, 3) := by decide +kernel
theorem dX0_readFrom_116 : decode cX0_readFrom 116 = .ok (.iastore, 1) := by decide +kernel
theorem dX0_readFrom_117 : decode cX0_readFrom 117 = .ok (.aload_n 0, 1) := by decide +kernel
theorem dX0_readFrom_118 : decode cX0_readFrom 118 = .ok (.getfield 37, 3) := by decide +kernel
theorem dX0_readFrom_121 : decode cX0_readFrom 121 = .ok (.iload_n 2, 1) := by decide +kernel
theorem dX0_readFrom_122 : decode cX0_readFrom 122 = .ok (.aload_n 1, 1) := by decide +kernel
theorem dX0_readFrom_123 : decode cX0_readFrom 123 = .ok (.iload_n 3, 1) := by decide +kernel
theorem dX0_readFrom_124 : decode cX0_readFrom 124 = .ok (.iconst 4, 1) := by decide +kernel
theorem dX0_readFrom_125 : decode cX0_readFrom 125 = .ok (.iadd, 1) := by decide +kernel
theorem dX0_readFrom_126 : decode cX0_readFrom 126 = .ok (.invokevirtual 40, 3) := by decide +kernel
theorem dX0_readFrom_129 : decode cX0_readFrom 129 = .ok (.iastore, 1) := by decide +kernel
theorem dX0_readFrom_130 : decode cX0_readFrom 130 = .ok (.iinc 2 1, 3) := by decide +kernel
theorem dX0_readFrom_133 : decode cX0_readFrom 133 = .ok (.goto (-68), 3) := by decide +kernel
theorem dX0_readFrom_136 : decode cX0_readFrom 136 = .ok (.return_, 1) := by decide +kernel
theorem dX0_hasPerson_0 : decode cX0_hasPerson 0 = .ok (.iload_n 1, 1) := by decide +kernel
theorem dX0_hasPerson_1 : decode cX0_hasPerson 1 = .ok (.ifCond .lt 15, 3) := by decide +kernel
theorem dX0_hasPerson_4 : decode cX0_hasPerson 4 = .ok (.iload_n 1, 1) := by decide +kernel
theorem dX0_hasPerson_5 : decode cX0_hasPerson 5 = .ok (.aload_n 0, 1) := by decide +kernel
theorem dX0_hasPerson_6 : decode cX0_hasPerson 6 = .ok (.getfield 27, 3) := by decide +kernel
theorem dX0_hasPerson_9 : decode cX0_hasPerson 9 = .ok (.if_icmp .ge 7, 3) := by decide +kernel
theorem dX0_hasPerson_12 : decode cX0_hasPerson 12 = .ok (.iconst 1, 1) := by decide +kernel
theorem dX0_hasPerson_13 : decode cX0_hasPerson 13 = .ok (.goto 4, 3) := by decide +kernel
theorem dX0_hasPerson_16 : decode cX0_hasPerson 16 = .ok (.iconst 0, 1) := by decide +kernel
theorem dX0_hasPerson_17 : decode cX0_hasPerson 17 = .ok (.ireturn, 1) := by decide +kernel
theorem dX0_hasEnd_0 : decode cX0_hasEnd 0 = .ok (.iload_n 1, 1) := by decide +kernel
theorem dX0_hasEnd_1 : decode cX0_hasEnd 1 = .ok (.ifCond .lt 15, 3) := by decide +kernel
theorem dX0_hasEnd_4 : decode cX0_hasEnd 4 = .ok (.iload_n 1, 1) := by decide +kernel
theorem dX0_hasEnd_5 : decode cX0_hasEnd 5 = .ok (.aload_n 0, 1) := by decide +kernel
theorem dX0_hasEnd_6 : decode cX0_hasEnd 6 = .ok (.getfield 9, 3) := by decide +kernel
theorem dX0_hasEnd_9 : decode cX0_hasEnd 9 = .ok (.if_icmp .ge 7, 3) := by decide +kernel
theorem dX0_hasEnd_12 : decode cX0_hasEnd 12 = .ok (.iconst 1, 1) := by decide +kernel
theorem dX0_hasEnd_13 : decode cX0_hasEnd 13 = .ok (.goto 4, 3) := by decide +kernel
theorem dX0_hasEnd_16 : decode cX0_hasEnd 16 = .ok (.iconst 0, 1) := by decide +kernel
theorem dX0_hasEnd_17 : decode cX0_hasEnd 17 = .ok (.ireturn, 1) := by decide +kernel
theorem dX0_willSit_0 : decode cX0_willSit 0 = .ok (.aload_n 0, 1) := by decide +kernel
theorem dX0_willSit_1 : decode cX0_willSit 1 = .ok (.iload_n 2, 1) := by decide +kernel
theorem dX0_willSit_2 : decode cX0_willSit 2 = .ok (.invokevirtual 55, 3) := by decide +kernel
theorem dX0_willSit_5 : decode cX0_willSit 5 = .ok (.ifCond .eq 35, 3) := by decide +kernel
theorem dX0_willSit_8 : decode cX0_willSit 8 = .ok (.aload_n 0, 1) := by decide +kernel
theorem dX0_willSit_9 : decode cX0_willSit 9 = .ok (.iload_n 1, 1) := by decide +kernel
theorem dX0_willSit_10 : decode cX0_willSit 10 = .ok (.invokevirtual 59, 3) := by decide +kernel
theorem dX0_willSit_13 : decode cX0_willSit 13 = .ok (.ifCond .eq 27, 3) := by decide +kernel
theorem dX0_willSit_16 : decode cX0_willSit 16 = .ok (.aload_n 0, 1) := by decide +kernel
theorem dX0_willSit_17 : decode cX0_willSit 17 = .ok (.getfield 37, 3) := by decide +kernel
theorem dX0_willSit_20 : decode cX0_willSit 20 = .ok (.iload_n 1, 1) := by decide +kernel
theorem dX0_willSit_21 : decode cX0_willSit 21 = .ok (.iaload, 1) := by decide +kernel
theorem dX0_willSit_22 : decode cX0_willSit 22 = .ok (.iconst 3, 1) := by decide +kernel
theorem dX0_willSit_23 : decode cX0_willSit 23 = .ok (.if_icmp .eq 13, 3) := by decide +kernel
theorem dX0_willSit_26 : decode cX0_willSit 26 = .ok (.aload_n 0, 1) := by decide +kernel
theorem dX0_willSit_27 : decode cX0_willSit 27 = .ok (.getfield 37, 3) := by decide +kernel
theorem dX0_willSit_30 : decode cX0_willSit 30 = .ok (.iload_n 1, 1) := by decide +kernel
theorem dX0_willSit_31 : decode cX0_willSit 31 = .ok (.iaload, 1) := by decide +kernel
theorem dX0_willSit_32 : decode cX0_willSit 32 = .ok (.iload_n 2, 1) := by decide +kernel
theorem dX0_willSit_33 : decode cX0_willSit 33 = .ok (.if_icmp .ne 7, 3) := by decide +kernel
theorem dX0_willSit_36 : decode cX0_willSit 36 = .ok (.iconst 1, 1) := by decide +kernel
theorem dX0_willSit_37 : decode cX0_willSit 37 = .ok (.goto 4, 3) := by decide +kernel
theorem dX0_willSit_40 : decode cX0_willSit 40 = .ok (.iconst 0, 1) := by decide +kernel
theorem dX0_willSit_41 : decode cX0_willSit 41 = .ok (.ireturn, 1) := by decide +kernel
theorem dX0_armOf_0 : decode cX0_armOf 0 = .ok (.aload_n 0, 1) := by decide +kernel
theorem dX0_armOf_1 : decode cX0_armOf 1 = .ok (.getfield 9, 3) := by decide +kernel
theorem dX0_armOf_4 : decode cX0_armOf 4 = .ok (.iconst 2, 1) := by decide +kernel
theorem dX0_armOf_5 : decode cX0_armOf 5 = .ok (.if_icmp .eq 5, 3) := by decide +kernel
theorem dX0_armOf_8 : decode cX0_armOf 8 = .ok (.iconst 1, 1) := by decide +kernel
theorem dX0_armOf_9 : decode cX0_armOf 9 = .ok (.ireturn, 1) := by decide +kernel
theorem dX0_armOf_10 : decode cX0_armOf 10 = .ok (.iload_n 1, 1) := by decide +kernel
theorem dX0_armOf_11 : decode cX0_armOf 11 = .ok (.ifCond .ne 10, 3) := by decide +kernel
theorem dX0_armOf_14 : decode cX0_armOf 14 = .ok (.aload_n 0, 1) := by decide +kernel
theorem dX0_armOf_15 : decode cX0_armOf 15 = .ok (.getfield 15, 3) := by decide +kernel
theorem dX0_armOf_18 : decode cX0_armOf 18 = .ok (.goto 7, 3) := by decide +kernel
theorem dX0_armOf_21 : decode cX0_armOf 21 = .ok (.aload_n 0, 1) := by decide +kernel
theorem dX0_armOf_22 : decode cX0_armOf 22 = .ok (.getfield 18, 3) := by decide +kernel
theorem dX0_armOf_25 : decode cX0_armOf 25 = .ok (.ireturn, 1) := by decide +kernel
theorem dX0_faresOf_0 : decode cX0_faresOf 0 = .ok (.iconst 0, 1) := by decide +kernel
theorem dX0_faresOf_1 : decode cX0_faresOf 1 = .ok (.istore_n 2, 1) := by decide +kernel
theorem dX0_faresOf_2 : decode cX0_faresOf 2 = .ok (.iconst 0, 1) := by decide +kernel
theorem dX0_faresOf_3 : decode cX0_faresOf 3 = .ok (.istore_n 3, 1) := by decide +kernel
theorem dX0_faresOf_4 : decode cX0_faresOf 4 = .ok (.iload_n 3, 1) := by decide +kernel
theorem dX0_faresOf_5 : decode cX0_faresOf 5 = .ok (.aload_n 0, 1) := by decide +kernel
theorem dX0_faresOf_6 : decode cX0_faresOf 6 = .ok (.getfield 27, 3) := by decide +kernel
theorem dX0_faresOf_9 : decode cX0_faresOf 9 = .ok (.if_icmp .ge 26, 3) := by decide +kernel
theorem dX0_faresOf_12 : decode cX0_faresOf 12 = .ok (.iload_n 1, 1) := by decide +kernel
theorem dX0_faresOf_13 : decode cX0_faresOf 13 = .ok (.iload_n 3, 1) := by decide +kernel
theorem dX0_faresOf_14 : decode cX0_faresOf 14 = .ok (.ishr, 1) := by decide +kernel
theorem dX0_faresOf_15 : decode cX0_faresOf 15 = .ok (.iconst 1, 1) := by decide +kernel
theorem dX0_faresOf_16 : decode cX0_faresOf 16 = .ok (.iand, 1) := by decide +kernel
theorem dX0_faresOf_17 : decode cX0_faresOf 17 = .ok (.ifCond .eq 12, 3) := by decide +kernel
theorem dX0_faresOf_20 : decode cX0_faresOf 20 = .ok (.iload_n 2, 1) := by decide +kernel
theorem dX0_faresOf_21 : decode cX0_faresOf 21 = .ok (.aload_n 0, 1) := by decide +kernel
theorem dX0_faresOf_22 : decode cX0_faresOf 22 = .ok (.getfield 34, 3) := by decide +kernel
theorem dX0_faresOf_25 : decode cX0_faresOf 25 = .ok (.iload_n 3, 1) := by decide +kernel
theorem dX0_faresOf_26 : decode cX0_faresOf 26 = .ok (.iaload, 1) := by decide +kernel
theorem dX0_faresOf_27 : decode cX0_faresOf 27 = .ok (.iadd, 1) := by decide +kernel
theorem dX0_faresOf_28 : decode cX0_faresOf 28 = .ok (.istore_n 2, 1) := by decide +kernel
theorem dX0_faresOf_29 : decode cX0_faresOf 29 = .ok (.iinc 3 1, 3) := by decide +kernel
theorem dX0_faresOf_32 : decode cX0_faresOf 32 = .ok (.goto (-28), 3) := by decide +kernel
theorem dX0_faresOf_35 : decode cX0_faresOf 35 = .ok (.iload_n 2, 1) := by decide +kernel
theorem dX0_faresOf_36 : decode cX0_faresOf 36 = .ok (.ireturn, 1) := by decide +kernel
theorem dX0_loadOf_0 : decode cX0_loadOf 0 = .ok (.iload_n 1, 1) := by decide +kernel
theorem dX0_loadOf_1 : decode cX0_loadOf 1 = .ok (.iload_n 2, 1) := by decide +kernel
theorem dX0_loadOf_2 : decode cX0_loadOf 2 = .ok (.invokestatic 62, 3) := by decide +kernel
theorem dX0_loadOf_5 : decode cX0_loadOf 5 = .ok (.istore 6, 2) := by decide +kernel
theorem dX0_loadOf_7 : decode cX0_loadOf 7 = .ok (.iload_n 2, 1) := by decide +kernel
theorem dX0_loadOf_8 : decode cX0_loadOf 8 = .ok (.ifCond .ne 10, 3) := by decide +kernel
theorem dX0_loadOf_11 : decode cX0_loadOf 11 = .ok (.aload_n 0, 1) := by decide +kernel
theorem dX0_loadOf_12 : decode cX0_loadOf 12 = .ok (.getfield 24, 3) := by decide +kernel
theorem dX0_loadOf_15 : decode cX0_loadOf 15 = .ok (.goto 4, 3) := by decide +kernel
theorem dX0_loadOf_18 : decode cX0_loadOf 18 = .ok (.iconst 0, 1) := by decide +kernel
theorem dX0_loadOf_19 : decode cX0_loadOf 19 = .ok (.istore 7, 2) := by decide +kernel
theorem dX0_loadOf_21 : decode cX0_loadOf 21 = .ok (.iconst 0, 1) := by decide +kernel
theorem dX0_loadOf_22 : decode cX0_loadOf 22 = .ok (.istore 8, 2) := by decide +kernel
theorem dX0_loadOf_24 : decode cX0_loadOf 24 = .ok (.iload 8, 2) := by decide +kernel
theorem dX0_loadOf_26 : decode cX0_loadOf 26 = .ok (.aload_n 0, 1) := by decide +kernel
theorem dX0_loadOf_27 : decode cX0_loadOf 27 = .ok (.getfield 27, 3) := by decide +kernel
theorem dX0_loadOf_30 : decode cX0_loadOf 30 = .ok (.if_icmp .ge 38, 3) := by decide +kernel
theorem dX0_loadOf_33 : decode cX0_loadOf 33 = .ok (.iload 6, 2) := by decide +kernel
theorem dX0_loadOf_35 : decode cX0_loadOf 35 = .ok (.iload 8, 2) := by decide +kernel
theorem dX0_loadOf_37 : decode cX0_loadOf 37 = .ok (.ishr, 1) := by decide +kernel
theorem dX0_loadOf_38 : decode cX0_loadOf 38 = .ok (.iconst 1, 1) := by decide +kernel
theorem dX0_loadOf_39 : decode cX0_loadOf 39 = .ok (.iand, 1) := by decide +kernel
theorem dX0_loadOf_40 : decode cX0_loadOf 40 = .ok (.ifCond .eq 22, 3) := by decide +kernel
theorem dX0_loadOf_43 : decode cX0_loadOf 43 = .ok (.iload 7, 2) := by decide +kernel
theorem dX0_loadOf_45 : decode cX0_loadOf 45 = .ok (.aload_n 3, 1) := by decide +kernel
theorem dX0_loadOf_46 : decode cX0_loadOf 46 = .ok (.iload 8, 2) := by decide +kernel
theorem dX0_loadOf_48 : decode cX0_loadOf 48 = .ok (.iaload, 1) := by decide +kernel
theorem dX0_loadOf_49 : decode cX0_loadOf 49 = .ok (.aload 4, 2) := by decide +kernel
theorem dX0_loadOf_51 : decode cX0_loadOf 51 = .ok (.iload 8, 2) := by decide +kernel
theorem dX0_loadOf_53 : decode cX0_loadOf 53 = .ok (.iaload, 1) := by decide +kernel
theorem dX0_loadOf_54 : decode cX0_loadOf 54 = .ok (.iload 5, 2) := by decide +kernel
theorem dX0_loadOf_56 : decode cX0_loadOf 56 = .ok (.invokestatic 65, 3) := by decide +kernel
theorem dX0_loadOf_59 : decode cX0_loadOf 59 = .ok (.iadd, 1) := by decide +kernel
theorem dX0_loadOf_60 : decode cX0_loadOf 60 = .ok (.istore 7, 2) := by decide +kernel
theorem dX0_loadOf_62 : decode cX0_loadOf 62 = .ok (.iinc 8 1, 3) := by decide +kernel
theorem dX0_loadOf_65 : decode cX0_loadOf 65 = .ok (.goto (-41), 3) := by decide +kernel
theorem dX0_loadOf_68 : decode cX0_loadOf 68 = .ok (.iload 7, 2) := by decide +kernel
theorem dX0_loadOf_70 : decode cX0_loadOf 70 = .ok (.ireturn, 1) := by decide +kernel
theorem dX0_tiltOf_0 : decode cX0_tiltOf 0 = .ok (.aload_n 0, 1) := by decide +kernel
theorem dX0_tiltOf_1 : decode cX0_tiltOf 1 = .ok (.iload_n 1, 1) := by decide +kernel
theorem dX0_tiltOf_2 : decode cX0_tiltOf 2 = .ok (.iconst 0, 1) := by decide +kernel
theorem dX0_tiltOf_3 : decode cX0_tiltOf 3 = .ok (.aload_n 2, 1) := by decide +kernel
theorem dX0_tiltOf_4 : decode cX0_tiltOf 4 = .ok (.aload_n 3, 1) := by decide +kernel
theorem dX0_tiltOf_5 : decode cX0_tiltOf 5 = .ok (.iload 4, 2) := by decide +kernel
theorem dX0_tiltOf_7 : decode cX0_tiltOf 7 = .ok (.invokevirtual 69, 3) := by decide +kernel
theorem dX0_tiltOf_10 : decode cX0_tiltOf 10 = .ok (.istore 5, 2) := by decide +kernel
theorem dX0_tiltOf_12 : decode cX0_tiltOf 12 = .ok (.aload_n 0, 1) := by decide +kernel
theorem dX0_tiltOf_13 : decode cX0_tiltOf 13 = .ok (.iload_n 1, 1) := by decide +kernel
theorem dX0_tiltOf_14 : decode cX0_tiltOf 14 = .ok (.iconst 1, 1) := by decide +kernel
theorem dX0_tiltOf_15 : decode cX0_tiltOf 15 = .ok (.aload_n 2, 1) := by decide +kernel
theorem dX0_tiltOf_16 : decode cX0_tiltOf 16 = .ok (.aload_n 3, 1) := by decide +kernel
theorem dX0_tiltOf_17 : decode cX0_tiltOf 17 = .ok (.iload 4, 2) := by decide +kernel
theorem dX0_tiltOf_19 : decode cX0_tiltOf 19 = .ok (.invokevirtual 69, 3) := by decide +kernel
theorem dX0_tiltOf_22 : decode cX0_tiltOf 22 = .ok (.istore 6, 2) := by decide +kernel
theorem dX0_tiltOf_24 : decode cX0_tiltOf 24 = .ok (.aload_n 0, 1) := by decide +kernel
theorem dX0_tiltOf_25 : decode cX0_tiltOf 25 = .ok (.getfield 9, 3) := by decide +kernel
theorem dX0_tiltOf_28 : decode cX0_tiltOf 28 = .ok (.iconst 2, 1) := by decide +kernel
theorem dX0_tiltOf_29 : decode cX0_tiltOf 29 = .ok (.if_icmp .ne 19, 3) := by decide +kernel
theorem dX0_tiltOf_32 : decode cX0_tiltOf 32 = .ok (.aload_n 0, 1) := by decide +kernel
theorem dX0_tiltOf_33 : decode cX0_tiltOf 33 = .ok (.getfield 15, 3) := by decide +kernel
theorem dX0_tiltOf_36 : decode cX0_tiltOf 36 = .ok (.iload 5, 2) := by decide +kernel
theorem dX0_tiltOf_38 : decode cX0_tiltOf 38 = .ok (.imul, 1) := by decide +kernel
theorem dX0_tiltOf_39 : decode cX0_tiltOf 39 = .ok (.aload_n 0, 1) := by decide +kernel
theorem dX0_tiltOf_40 : decode cX0_tiltOf 40 = .ok (.getfield 18, 3) := by decide +kernel
theorem dX0_tiltOf_43 : decode cX0_tiltOf 43 = .ok (.iload 6, 2) := by decide +kernel
theorem dX0_tiltOf_45 : decode cX0_tiltOf 45 = .ok (.imul, 1) := by decide +kernel
theorem dX0_tiltOf_46 : decode cX0_tiltOf 46 = .ok (.isub, 1) := by decide +kernel
theorem dX0_tiltOf_47 : decode cX0_tiltOf 47 = .ok (.ireturn, 1) := by decide +kernel
theorem dX0_tiltOf_48 : decode cX0_tiltOf 48 = .ok (.aload_n 0, 1) := by decide +kernel
theorem dX0_tiltOf_49 : decode cX0_tiltOf 49 = .ok (.iload_n 1, 1) := by decide +kernel
theorem dX0_tiltOf_50 : decode cX0_tiltOf 50 = .ok (.iconst 2, 1) := by decide +kernel
theorem dX0_tiltOf_51 : decode cX0_tiltOf 51 = .ok (.aload_n 2, 1) := by decide +kernel
theorem dX0_tiltOf_52 : decode cX0_tiltOf 52 = .ok (.aload_n 3, 1) := by decide +kernel
theorem dX0_tiltOf_53 : decode cX0_tiltOf 53 = .ok (.iload 4, 2) := by decide +kernel
theorem dX0_tiltOf_55 : decode cX0_tiltOf 55 = .ok (.invokevirtual 69, 3) := by decide +kernel
theorem dX0_tiltOf_58 : decode cX0_tiltOf 58 = .ok (.istore 7, 2) := by decide +kernel
theorem dX0_tiltOf_60 : decode cX0_tiltOf 60 = .ok (.iload 5, 2) := by decide +kernel
theorem dX0_tiltOf_62 : decode cX0_tiltOf 62 = .ok (.iload 6, 2) := by decide +kernel
theorem dX0_tiltOf_64 : decode cX0_tiltOf 64 = .ok (.iload 7, 2) := by decide +kernel
theorem dX0_tiltOf_66 : decode cX0_tiltOf 66 = .ok (.invokestatic 73, 3) := by decide +kernel
theorem dX0_tiltOf_69 : decode cX0_tiltOf 69 = .ok (.invokestatic 73, 3) := by decide +kernel
theorem dX0_tiltOf_72 : decode cX0_tiltOf 72 = .ok (.istore 8, 2) := by decide +kernel
theorem dX0_tiltOf_74 : decode cX0_tiltOf 74 = .ok (.iload 5, 2) := by decide +kernel
theorem dX0_tiltOf_76 : decode cX0_tiltOf 76 = .ok (.iload 6, 2) := by decide +kernel
theorem dX0_tiltOf_78 : decode cX0_tiltOf 78 = .ok (.iload 7, 2) := by decide +kernel
theorem dX0_tiltOf_80 : decode cX0_tiltOf 80 = .ok (.invokestatic 49, 3) := by decide +kernel
theorem dX0_tiltOf_83 : decode cX0_tiltOf 83 = .ok (.invokestatic 49, 3) := by decide +kernel
theorem dX0_tiltOf_86 : decode cX0_tiltOf 86 = .ok (.istore 9, 2) := by decide +kernel
theorem dX0_tiltOf_88 : decode cX0_tiltOf 88 = .ok (.iload 8, 2) := by decide +kernel
theorem dX0_tiltOf_90 : decode cX0_tiltOf 90 = .ok (.iload 9, 2) := by decide +kernel
theorem dX0_tiltOf_92 : decode cX0_tiltOf 92 = .ok (.isub, 1) := by decide +kernel
theorem dX0_tiltOf_93 : decode cX0_tiltOf 93 = .ok (.ireturn, 1) := by decide +kernel
theorem dX0_isLevel_0 : decode cX0_isLevel 0 = .ok (.aload_n 0, 1) := by decide +kernel
theorem dX0_isLevel_1 : decode cX0_isLevel 1 = .ok (.iload_n 1, 1) := by decide +kernel
theorem dX0_isLevel_2 : decode cX0_isLevel 2 = .ok (.aload_n 2, 1) := by decide +kernel
theorem dX0_isLevel_3 : decode cX0_isLevel 3 = .ok (.aload_n 3, 1) := by decide +kernel
theorem dX0_isLevel_4 : decode cX0_isLevel 4 = .ok (.getfield 76, 3) := by decide +kernel
theorem dX0_isLevel_7 : decode cX0_isLevel 7 = .ok (.iconst 0, 1) := by decide +kernel
theorem dX0_isLevel_8 : decode cX0_isLevel 8 = .ok (.invokevirtual 81, 3) := by decide +kernel
theorem dX0_isLevel_11 : decode cX0_isLevel 11 = .ok (.ifCond .ne 24, 3) := by decide +kernel
theorem dX0_isLevel_14 : decode cX0_isLevel 14 = .ok (.aload_n 0, 1) := by decide +kernel
theorem dX0_isLevel_15 : decode cX0_isLevel 15 = .ok (.iload_n 1, 1) := by decide +kernel
theorem dX0_isLevel_16 : decode cX0_isLevel 16 = .ok (.aload_n 2, 1) := by decide +kernel
theorem dX0_isLevel_17 : decode cX0_isLevel 17 = .ok (.aload_n 3, 1) := by decide +kernel
theorem dX0_isLevel_18 : decode cX0_isLevel 18 = .ok (.getfield 76, 3) := by decide +kernel
theorem dX0_isLevel_21 : decode cX0_isLevel 21 = .ok (.aload_n 3, 1) := by decide +kernel
theorem dX0_isLevel_22 : decode cX0_isLevel 22 = .ok (.getfield 85, 3) := by decide +kernel
theorem dX0_isLevel_25 : decode cX0_isLevel 25 = .ok (.invokevirtual 81, 3) := by decide +kernel
theorem dX0_isLevel_28 : decode cX0_isLevel 28 = .ok (.ifCond .ne 7, 3) := by decide +kernel
theorem dX0_isLevel_31 : decode cX0_isLevel 31 = .ok (.iconst 1, 1) := by decide +kernel
theorem dX0_isLevel_32 : decode cX0_isLevel 32 = .ok (.goto 4, 3) := by decide +kernel
theorem dX0_isLevel_35 : decode cX0_isLevel 35 = .ok (.iconst 0, 1) := by decide +kernel
theorem dX0_isLevel_36 : decode cX0_isLevel 36 = .ok (.ireturn, 1) := by decide +kernel
theorem dX1_init_0 : decode cX1_init 0 = .ok (.aload_n 0, 1) := by decide +kernel
theorem dX1_init_1 : decode cX1_init 1 = .ok (.invokespecial 3, 3) := by decide +kernel
theorem dX1_init_4 : decode cX1_init 4 = .ok (.aload_n 0, 1) := by decide +kernel
theorem dX1_init_5 : decode cX1_init 5 = .ok (.bipush 9, 2) := by decide +kernel
theorem dX1_init_7 : decode cX1_init 7 = .ok (.newarray .int, 2) := by decide +kernel
theorem dX1_init_9 : decode cX1_init 9 = .ok (.putfield 9, 3) := by decide +kernel
theorem dX1_init_12 : decode cX1_init 12 = .ok (.aload_n 0, 1) := by decide +kernel
theorem dX1_init_13 : decode cX1_init 13 = .ok (.bipush 8, 2) := by decide +kernel
theorem dX1_init_15 : decode cX1_init 15 = .ok (.newarray .int, 2) := by decide +kernel
theorem dX1_init_17 : decode cX1_init 17 = .ok (.putfield 15, 3) := by decide +kernel
theorem dX1_init_20 : decode cX1_init 20 = .ok (.aload_n 0, 1) := by decide +kernel
theorem dX1_init_21 : decode cX1_init 21 = .ok (.bipush 8, 2) := by decide +kernel
theorem dX1_init_23 : decode cX1_init 23 = .ok (.newarray .int, 2) := by decide +kernel
theorem dX1_init_25 : decode cX1_init 25 = .ok (.putfield 18, 3) := by decide +kernel
theorem dX1_init_28 : decode cX1_init 28 = .ok (.aload_n 0, 1) := by decide +kernel
theorem dX1_init_29 : decode cX1_init 29 = .ok (.iconst 0, 1) := by decide +kernel
theorem dX1_init_30 : decode cX1_init 30 = .ok (.putfield 21, 3) := by decide +kernel
theorem dX1_init_33 : decode cX1_init 33 = .ok (.aload_n 0, 1) := by decide +kernel
theorem dX1_init_34 : decode cX1_init 34 = .ok (.iconst 0, 1) := by decide +kernel
theorem dX1_init_35 : decode cX1_init 35 = .ok (.putfield 25, 3) := by decide +kernel
theorem dX1_init_38 : decode cX1_init 38 = .ok (.aload_n 0, 1) := by decide +kernel
theorem dX1_init_39 : decode cX1_init 39 = .ok (.iconst 0, 1) := by decide +kernel
theorem dX1_init_40 : decode cX1_init 40 = .ok (.putfield 28, 3) := by decide +kernel
theorem dX1_init_43 : decode cX1_init 43 = .ok (.return_, 1) := by decide +kernel
theorem dX1_startAnew_0 : decode cX1_startAnew 0 = .ok (.aload_n 0, 1) := by decide +kernel
theorem dX1_startAnew_1 : decode cX1_startAnew 1 = .ok (.iconst 0, 1) := by decide +kernel
theorem dX1_startAnew_2 : decode cX1_startAnew 2 = .ok (.putfield 21, 3) := by decide +kernel
theorem dX1_startAnew_5 : decode cX1_startAnew 5 = .ok (.aload_n 0, 1) := by decide +kernel
theorem dX1_startAnew_6 : decode cX1_startAnew 6 = .ok (.iconst 0, 1) := by decide +kernel
theorem dX1_startAnew_7 : decode cX1_startAnew 7 = .ok (.putfield 25, 3) := by decide +kernel
theorem dX1_startAnew_10 : decode cX1_startAnew 10 = .ok (.iconst 0, 1) := by decide +kernel
theorem dX1_startAnew_11 : decode cX1_startAnew 11 = .ok (.istore_n 2, 1) := by decide +kernel
theorem dX1_startAnew_12 : decode cX1_startAnew 12 = .ok (.iload_n 2, 1) := by decide +kernel
theorem dX1_startAnew_13 : decode cX1_startAnew 13 = .ok (.bipush 8, 2) := by decide +kernel
theorem dX1_startAnew_15 : decode cX1_startAnew 15 = .ok (.if_icmp .gt 16, 3) := by decide +kernel
theorem dX1_startAnew_18 : decode cX1_startAnew 18 = .ok (.aload_n 0, 1) := by decide +kernel
theorem dX1_startAnew_19 : decode cX1_startAnew 19 = .ok (.getfield 9, 3) := by decide +kernel
theorem dX1_startAnew_22 : decode cX1_startAnew 22 = .ok (.iload_n 2, 1) := by decide +kernel
theorem dX1_startAnew_23 : decode cX1_startAnew 23 = .ok (.iconst 0, 1) := by decide +kernel
theorem dX1_startAnew_24 : decode cX1_startAnew 24 = .ok (.iastore, 1) := by decide +kernel
theorem dX1_startAnew_25 : decode cX1_startAnew 25 = .ok (.iinc 2 1, 3) := by decide +kernel
theorem dX1_startAnew_28 : decode cX1_startAnew 28 = .ok (.goto (-16), 3) := by decide +kernel
theorem dX1_startAnew_31 : decode cX1_startAnew 31 = .ok (.iconst 0, 1) := by decide +kernel
theorem dX1_startAnew_32 : decode cX1_startAnew 32 = .ok (.istore_n 2, 1) := by decide +kernel
theorem dX1_startAnew_33 : decode cX1_startAnew 33 = .ok (.iload_n 2, 1) := by decide +kernel
theorem dX1_startAnew_34 : decode cX1_startAnew 34 = .ok (.bipush 8, 2) := by decide +kernel
theorem dX1_startAnew_36 : decode cX1_startAnew 36 = .ok (.if_icmp .ge 28, 3) := by decide +kernel
theorem dX1_startAnew_39 : decode cX1_startAnew 39 = .ok (.aload_n 0, 1) := by decide +kernel
theorem dX1_startAnew_40 : decode cX1_startAnew 40 = .ok (.getfield 15, 3) := by decide +kernel
theorem dX1_startAnew_43 : decode cX1_startAnew 43 = .ok (.iload_n 2, 1) := by decide +kernel
theorem dX1_startAnew_44 : decode cX1_startAnew 44 = .ok (.iconst 0, 1) := by decide +kernel
theorem dX1_startAnew_45 : decode cX1_startAnew 45 = .ok (.iastore, 1) := by decide +kernel
theorem dX1_startAnew_46 : decode cX1_startAnew 46 = .ok (.aload_n 0, 1) := by decide +kernel
theorem dX1_startAnew_47 : decode cX1_startAnew 47 = .ok (.getfield 18, 3) := by decide +kernel
theorem dX1_startAnew_50 : decode cX1_startAnew 50 = .ok (.iload_n 2, 1) := by decide +kernel
theorem dX1_startAnew_51 : decode cX1_startAnew 51 = .ok (.aload_n 1, 1) := by decide +kernel
theorem dX1_startAnew_52 : decode cX1_startAnew 52 = .ok (.getfield 32, 3) := by decide +kernel
theorem dX1_startAnew_55 : decode cX1_startAnew 55 = .ok (.iload_n 2, 1) := by decide +kernel
theorem dX1_startAnew_56 : decode cX1_startAnew 56 = .ok (.iaload, 1) := by decide +kernel
theorem dX1_startAnew_57 : decode cX1_startAnew 57 = .ok (.iastore, 1) := by decide +kernel
theorem dX1_startAnew_58 : decode cX1_startAnew 58 = .ok (.iinc 2 1, 3) := by decide +kernel
theorem dX1_startAnew_61 : decode cX1_startAnew 61 = .ok (.goto (-28), 3) := by decide +kernel
theorem dX1_startAnew_64 : decode cX1_startAnew 64 = .ok (.return_, 1) := by decide +kernel
theorem dX1_copyFrom_0 : decode cX1_copyFrom 0 = .ok (.aload_n 0, 1) := by decide +kernel
theorem dX1_copyFrom_1 : decode cX1_copyFrom 1 = .ok (.aload_n 1, 1) := by decide +kernel
theorem dX1_copyFrom_2 : decode cX1_copyFrom 2 = .ok (.getfield 21, 3) := by decide +kernel
theorem dX1_copyFrom_5 : decode cX1_copyFrom 5 = .ok (.putfield 21, 3) := by decide +kernel
theorem dX1_copyFrom_8 : decode cX1_copyFrom 8 = .ok (.aload_n 0, 1) := by decide +kernel
theorem dX1_copyFrom_9 : decode cX1_copyFrom 9 = .ok (.aload_n 1, 1) := by decide +kernel
theorem dX1_copyFrom_10 : decode cX1_copyFrom 10 = .ok (.getfield 25, 3) := by decide +kernel
theorem dX1_copyFrom_13 : decode cX1_copyFrom 13 = .ok (.putfield 25, 3) := by decide +kernel
theorem dX1_copyFrom_16 : decode cX1_copyFrom 16 = .ok (.iconst 0, 1) := by decide +kernel
theorem dX1_copyFrom_17 : decode cX1_copyFrom 17 = .ok (.istore_n 2, 1) := by decide +kernel
theorem dX1_copyFrom_18 : decode cX1_copyFrom 18 = .ok (.iload_n 2, 1) := by decide +kernel
theorem dX1_copyFrom_19 : decode cX1_copyFrom 19 = .ok (.bipush 8, 2) := by decide +kernel
theorem dX1_copyFrom_21 : decode cX1_copyFrom 21 = .ok (.if_icmp .gt 21, 3) := by decide +kernel
theorem dX1_copyFrom_24 : decode cX1_copyFrom 24 = .ok (.aload_n 0, 1) := by decide +kernel
theorem dX1_copyFrom_25 : decode cX1_copyFrom 25 = .ok (.getfield 9, 3) := by decide +kernel
theorem dX1_copyFrom_28 : decode cX1_copyFrom 28 = .ok (.iload_n 2, 1) := by decide +kernel
theorem dX1_copyFrom_29 : decode cX1_copyFrom 29 = .ok (.aload_n 1, 1) := by decide +kernel
theorem dX1_copyFrom_30 : decode cX1_copyFrom 30 = .ok (.getfield 9, 3) := by decide +kernel
theorem dX1_copyFrom_33 : decode cX1_copyFrom 33 = .ok (.iload_n 2, 1) := by decide +kernel
theorem dX1_copyFrom_34 : decode cX1_copyFrom 34 = .ok (.iaload, 1) := by decide +kernel
theorem dX1_copyFrom_35 : decode cX1_copyFrom 35 = .ok (.iastore, 1) := by decide +kernel
theorem dX1_copyFrom_36 : decode cX1_copyFrom 36 = .ok (.iinc 2 1, 3) := by decide +kernel
theorem dX1_copyFrom_39 : decode cX1_copyFrom 39 = .ok (.goto (-21), 3) := by decide +kernel
theorem dX1_copyFrom_42 : decode cX1_copyFrom 42 = .ok (.iconst 0, 1) := by decide +kernel
theorem dX1_copyFrom_43 : decode cX1_copyFrom 43 = .ok (.istore_n 2, 1) := by decide +kernel
theorem dX1_copyFrom_44 : decode cX1_copyFrom 44 = .ok (.iload_n 2, 1) := by decide +kernel
theorem dX1_copyFrom_45 : decode cX1_copyFrom 45 = .ok (.bipush 8, 2) := by decide +kernel
theorem dX1_copyFrom_47 : decode cX1_copyFrom 47 = .ok (.if_icmp .ge 33, 3) := by decide +kernel
theorem dX1_copyFrom_50 : decode cX1_copyFrom 50 = .ok (.aload_n 0, 1) := by decide +kernel
theorem dX1_copyFrom_51 : decode cX1_copyFrom 51 = .ok (.getfield 15, 3) := by decide +kernel
theorem dX1_copyFrom_54 : decode cX1_copyFrom 54 = .ok (.iload_n 2, 1) := by decide +kernel
theorem dX1_copyFrom_55 : decode cX1_copyFrom 55 = .ok (.aload_n 1, 1) := by decide +kernel
theorem dX1_copyFrom_56 : decode cX1_copyFrom 56 = .ok (.getfield 15, 3) := by decide +kernel
theorem dX1_copyFrom_59 : decode cX1_copyFrom 59 = .ok (.iload_n 2, 1) := by decide +kernel
theorem dX1_copyFrom_60 : decode cX1_copyFrom 60 = .ok (.iaload, 1) := by decide +kernel
theorem dX1_copyFrom_61 : decode cX1_copyFrom 61 = .ok (.iastore, 1) := by decide +kernel
theorem dX1_copyFrom_62 : decode cX1_copyFrom 62 = .ok (.aload_n 0, 1) := by decide +kernel
theorem dX1_copyFrom_63 : decode cX1_copyFrom 63 = .ok (.getfield 18, 3) := by decide +kernel
theorem dX1_copyFrom_66 : decode cX1_copyFrom 66 = .ok (.iload_n 2, 1) := by decide +kernel
theorem dX1_copyFrom_67 : decode cX1_copyFrom 67 = .ok (.aload_n 1, 1) := by decide +kernel
theorem dX1_copyFrom_68 : decode cX1_copyFrom 68 = .ok (.getfield 18, 3) := by decide +kernel
theorem dX1_copyFrom_71 : decode cX1_copyFrom 71 = .ok (.iload_n 2, 1) := by decide +kernel
theorem dX1_copyFrom_72 : decode cX1_copyFrom 72 = .ok (.iaload, 1) := by decide +kernel
theorem dX1_copyFrom_73 : decode cX1_copyFrom 73 = .ok (.iastore, 1) := by decide +kernel
theorem dX1_copyFrom_74 : decode cX1_copyFrom 74 = .ok (.iinc 2 1, 3) := by decide +kernel
theorem dX1_copyFrom_77 : decode cX1_copyFrom 77 = .ok (.goto (-33), 3) := by decide +kernel
theorem dX1_copyFrom_80 : decode cX1_copyFrom 80 = .ok (.return_, 1) := by decide +kernel
theorem dX1_crewOf_0 : decode cX1_crewOf 0 = .ok (.iload_n 1, 1) := by decide +kernel
theorem dX1_crewOf_1 : decode cX1_crewOf 1 = .ok (.ifCond .lt 18, 3) := by decide +kernel
theorem dX1_crewOf_4 : decode cX1_crewOf 4 = .ok (.iload_n 1, 1) := by decide +kernel
theorem dX1_crewOf_5 : decode cX1_crewOf 5 = .ok (.bipush 8, 2) := by decide +kernel
theorem dX1_crewOf_7 : decode cX1_crewOf 7 = .ok (.if_icmp .gt 12, 3) := by decide +kernel
theorem dX1_crewOf_10 : decode cX1_crewOf 10 = .ok (.aload_n 0, 1) := by decide +kernel
theorem dX1_crewOf_11 : decode cX1_crewOf 11 = .ok (.getfield 9, 3) := by decide +kernel
theorem dX1_crewOf_14 : decode cX1_crewOf 14 = .ok (.iload_n 1, 1) := by decide +kernel
theorem dX1_crewOf_15 : decode cX1_crewOf 15 = .ok (.iaload, 1) := by decide +kernel
theorem dX1_crewOf_16 : decode cX1_crewOf 16 = .ok (.goto 4, 3) := by decide +kernel
theorem dX1_crewOf_19 : decode cX1_crewOf 19 = .ok (.iconst 0, 1) := by decide +kernel
theorem dX1_crewOf_20 : decode cX1_crewOf 20 = .ok (.ireturn, 1) := by decide +kernel
theorem dX1_laid_0 : decode cX1_laid 0 = .ok (.aload_n 0, 1) := by decide +kernel
theorem dX1_laid_1 : decode cX1_laid 1 = .ok (.aload_n 0, 1) := by decide +kernel
theorem dX1_laid_2 : decode cX1_laid 2 = .ok (.getfield 21, 3) := by decide +kernel
theorem dX1_laid_5 : decode cX1_laid 5 = .ok (.invokevirtual 37, 3) := by decide +kernel
theorem dX1_laid_8 : decode cX1_laid 8 = .ok (.ireturn, 1) := by decide +kernel
theorem dX1_setLaid_0 : decode cX1_setLaid 0 = .ok (.aload_n 0, 1) := by decide +kernel
theorem dX1_setLaid_1 : decode cX1_setLaid 1 = .ok (.getfield 21, 3) := by decide +kernel
theorem dX1_setLaid_4 : decode cX1_setLaid 4 = .ok (.ifCond .lt 22, 3) := by decide +kernel
theorem dX1_setLaid_7 : decode cX1_setLaid 7 = .ok (.aload_n 0, 1) := by decide +kernel
theorem dX1_setLaid_8 : decode cX1_setLaid 8 = .ok (.getfield 21, 3) := by decide +kernel
theorem dX1_setLaid_11 : decode cX1_setLaid 11 = .ok (.bipush 8, 2) := by decide +kernel
theorem dX1_setLaid_13 : decode cX1_setLaid 13 = .ok (.if_icmp .gt 13, 3) := by decide +kernel
theorem dX1_setLaid_16 : decode cX1_setLaid 16 = .ok (.aload_n 0, 1) := by decide +kernel
theorem dX1_setLaid_17 : decode cX1_setLaid 17 = .ok (.getfield 9, 3) := by decide +kernel
theorem dX1_setLaid_20 : decode cX1_setLaid 20 = .ok (.aload_n 0, 1) := by decide +kernel
theorem dX1_setLaid_21 : decode cX1_setLaid 21 = .ok (.getfield 21, 3) := by decide +kernel
theorem dX1_setLaid_24 : decode cX1_setLaid 24 = .ok (.iload_n 1, 1) := by decide +kernel
theorem dX1_setLaid_25 : decode cX1_setLaid 25 = .ok (.iastore, 1) := by decide +kernel
theorem dX1_setLaid_26 : decode cX1_setLaid 26 = .ok (.return_, 1) := by decide +kernel
theorem dX1_depart_0 : decode cX1_depart 0 = .ok (.aload_n 0, 1) := by decide +kernel
theorem dX1_depart_1 : decode cX1_depart 1 = .ok (.getfield 21, 3) := by decide +kernel
theorem dX1_depart_4 : decode cX1_depart 4 = .ok (.bipush 8, 2) := by decide +kernel
theorem dX1_depart_6 : decode cX1_depart 6 = .ok (.if_icmp .ge 18, 3) := by decide +kernel
theorem dX1_depart_9 : decode cX1_depart 9 = .ok (.aload_n 0, 1) := by decide +kernel
theorem dX1_depart_10 : decode cX1_depart 10 = .ok (.dup, 1) := by decide +kernel
theorem dX1_depart_11 : decode cX1_depart 11 = .ok (.getfield 21, 3) := by decide +kernel
theorem dX1_depart_14 : decode cX1_depart 14 = .ok (.iconst 1, 1) := by decide +kernel
theorem dX1_depart_15 : decode cX1_depart 15 = .ok (.iadd, 1) := by decide +kernel
theorem dX1_depart_16 : decode cX1_depart 16 = .ok (.putfield 21, 3) := by decide +kernel
theorem dX1_depart_19 : decode cX1_depart 19 = .ok (.aload_n 0, 1) := by decide +kernel
theorem dX1_depart_20 : decode cX1_depart 20 = .ok (.iconst 0, 1) := by decide +kernel
theorem dX1_depart_21 : decode cX1_depart 21 = .ok (.invokevirtual 41, 3) := by decide +kernel
theorem dX1_depart_24 : decode cX1_depart 24 = .ok (.return_, 1) := by decide +kernel
theorem dX1_takeBack_0 : decode cX1_takeBack 0 = .ok (.aload_n 0, 1) := by decide +kernel
theorem dX1_takeBack_1 : decode cX1_takeBack 1 = .ok (.getfield 21, 3) := by decide +kernel
theorem dX1_takeBack_4 : decode cX1_takeBack 4 = .ok (.ifCond .le 13, 3) := by decide +kernel
theorem dX1_takeBack_7 : decode cX1_takeBack 7 = .ok (.aload_n 0, 1) := by decide +kernel
theorem dX1_takeBack_8 : decode cX1_takeBack 8 = .ok (.dup, 1) := by decide +kernel
theorem dX1_takeBack_9 : decode cX1_takeBack 9 = .ok (.getfield 21, 3) := by decide +kernel
theorem dX1_takeBack_12 : decode cX1_takeBack 12 = .ok (.iconst 1, 1) := by decide +kernel
theorem dX1_takeBack_13 : decode cX1_takeBack 13 = .ok (.isub, 1) := by decide +kernel
theorem dX1_takeBack_14 : decode cX1_takeBack 14 = .ok (.putfield 21, 3) := by decide +kernel
theorem dX1_takeBack_17 : decode cX1_takeBack 17 = .ok (.return_, 1) := by decide +kernel
theorem dX1_gone_0 : decode cX1_gone 0 = .ok (.iconst 0, 1) := by decide +kernel
theorem dX1_gone_1 : decode cX1_gone 1 = .ok (.istore_n 1, 1) := by decide +kernel
theorem dX1_gone_2 : decode cX1_gone 2 = .ok (.iconst 0, 1) := by decide +kernel
theorem dX1_gone_3 : decode cX1_gone 3 = .ok (.istore_n 2, 1) := by decide +kernel
theorem dX1_gone_4 : decode cX1_gone 4 = .ok (.iload_n 2, 1) := by decide +kernel
theorem dX1_gone_5 : decode cX1_gone 5 = .ok (.aload_n 0, 1) := by decide +kernel
theorem dX1_gone_6 : decode cX1_gone 6 = .ok (.getfield 21, 3) := by decide +kernel
theorem dX1_gone_9 : decode cX1_gone 9 = .ok (.if_icmp .ge 20, 3) := by decide +kernel
theorem dX1_gone_12 : decode cX1_gone 12 = .ok (.iload_n 1, 1) := by decide +kernel
theorem dX1_gone_13 : decode cX1_gone 13 = .ok (.aload_n 0, 1) := by decide +kernel
theorem dX1_gone_14 : decode cX1_gone 14 = .ok (.iload_n 2, 1) := by decide +kernel
theorem dX1_gone_15 : decode cX1_gone 15 = .ok (.invokevirtual 37, 3) := by decide +kernel
theorem dX1_gone_18 : decode cX1_gone 18 = .ok (.invokestatic 45, 3) := by decide +kernel
theorem dX1_gone_21 : decode cX1_gone 21 = .ok (.ior, 1) := by decide +kernel
theorem dX1_gone_22 : decode cX1_gone 22 = .ok (.istore_n 1, 1) := by decide +kernel
theorem dX1_gone_23 : decode cX1_gone 23 = .ok (.iinc 2 1, 3) := by decide +kernel
theorem dX1_gone_26 : decode cX1_gone 26 = .ok (.goto (-22), 3) := by decide +kernel
theorem dX1_gone_29 : decode cX1_gone 29 = .ok (.iload_n 1, 1) := by decide +kernel
theorem dX1_gone_30 : decode cX1_gone 30 = .ok (.ireturn, 1) := by decide +kernel
theorem dX1_boatOf_0 : decode cX1_boatOf 0 = .ok (.iconst 0, 1) := by decide +kernel
theorem dX1_boatOf_1 : decode cX1_boatOf 1 = .ok (.istore_n 2, 1) := by decide +kernel
theorem dX1_boatOf_2 : decode cX1_boatOf 2 = .ok (.iload_n 2, 1) := by decide +kernel
theorem dX1_boatOf_3 : decode cX1_boatOf 3 = .ok (.aload_n 0, 1) := by decide +kernel
theorem dX1_boatOf_4 : decode cX1_boatOf 4 = .ok (.getfield 21, 3) := by decide +kernel
theorem dX1_boatOf_7 : decode cX1_boatOf 7 = .ok (.if_icmp .ge 25, 3) := by decide +kernel
theorem dX1_boatOf_10 : decode cX1_boatOf 10 = .ok (.aload_n 0, 1) := by decide +kernel
theorem dX1_boatOf_11 : decode cX1_boatOf 11 = .ok (.iload_n 2, 1) := by decide +kernel
theorem dX1_boatOf_12 : decode cX1_boatOf 12 = .ok (.invokevirtual 37, 3) := by decide +kernel
theorem dX1_boatOf_15 : decode cX1_boatOf 15 = .ok (.iload_n 1, 1) := by decide +kernel
theorem dX1_boatOf_16 : decode cX1_boatOf 16 = .ok (.invokestatic 48, 3) := by decide +kernel
theorem dX1_boatOf_19 : decode cX1_boatOf 19 = .ok (.bipush (-9), 2) := by decide +kernel
theorem dX1_boatOf_21 : decode cX1_boatOf 21 = .ok (.if_icmp .eq 5, 3) := by decide +kernel
theorem dX1_boatOf_24 : decode cX1_boatOf 24 = .ok (.iload_n 2, 1) := by decide +kernel
theorem dX1_boatOf_25 : decode cX1_boatOf 25 = .ok (.ireturn, 1) := by decide +kernel
theorem dX1_boatOf_26 : decode cX1_boatOf 26 = .ok (.iinc 2 1, 3) := by decide +kernel
theorem dX1_boatOf_29 : decode cX1_boatOf 29 = .ok (.goto (-27), 3) := by decide +kernel
theorem dX1_boatOf_32 : decode cX1_boatOf 32 = .ok (.bipush (-9), 2) := by decide +kernel
theorem dX1_boatOf_34 : decode cX1_boatOf 34 = .ok (.ireturn, 1) := by decide +kernel
theorem dX1_placeOf_0 : decode cX1_placeOf 0 = .ok (.aload_n 0, 1) := by decide +kernel
theorem dX1_placeOf_1 : decode cX1_placeOf 1 = .ok (.iload_n 1, 1) := by decide +kernel
theorem dX1_placeOf_2 : decode cX1_placeOf 2 = .ok (.invokevirtual 52, 3) := by decide +kernel
theorem dX1_placeOf_5 : decode cX1_placeOf 5 = .ok (.bipush (-9), 2) := by decide +kernel
theorem dX1_placeOf_7 : decode cX1_placeOf 7 = .ok (.if_icmp .eq 6, 3) := by decide +kernel
theorem dX1_placeOf_10 : decode cX1_placeOf 10 = .ok (.bipush 20, 2) := by decide +kernel
theorem dX1_placeOf_12 : decode cX1_placeOf 12 = .ok (.ireturn, 1) := by decide +kernel
theorem dX1_placeOf_13 : decode cX1_placeOf 13 = .ok (.aload_n 0, 1) := by decide +kernel
theorem dX1_placeOf_14 : decode cX1_placeOf 14 = .ok (.invokevirtual 55, 3) := by decide +kernel
theorem dX1_placeOf_17 : decode cX1_placeOf 17 = .ok (.iload_n 1, 1) := by decide +kernel
theorem dX1_placeOf_18 : decode cX1_placeOf 18 = .ok (.invokestatic 48, 3) := by decide +kernel
theorem dX1_placeOf_21 : decode cX1_placeOf 21 = .ok (.istore_n 2, 1) := by decide +kernel
theorem dX1_placeOf_22 : decode cX1_placeOf 22 = .ok (.iload_n 2, 1) := by decide +kernel
theorem dX1_placeOf_23 : decode cX1_placeOf 23 = .ok (.bipush (-9), 2) := by decide +kernel
theorem dX1_placeOf_25 : decode cX1_placeOf 25 = .ok (.if_icmp .ne 8, 3) := by decide +kernel
theorem dX1_placeOf_28 : decode cX1_placeOf 28 = .ok (.bipush 10, 2) := by decide +kernel
theorem dX1_placeOf_30 : decode cX1_placeOf 30 = .ok (.goto 4, 3) := by decide +kernel
theorem dX1_placeOf_33 : decode cX1_placeOf 33 = .ok (.iload_n 2, 1) := by decide +kernel
theorem dX1_placeOf_34 : decode cX1_placeOf 34 = .ok (.ireturn, 1) := by decide +kernel
theorem dX2_init_0 : decode cX2_init 0 = .ok (.aload_n 0, 1) := by decide +kernel
theorem dX2_init_1 : decode cX2_init 1 = .ok (.invokespecial 3, 3) := by decide +kernel
theorem dX2_init_4 : decode cX2_init 4 = .ok (.aload_n 0, 1) := by decide +kernel
theorem dX2_init_5 : decode cX2_init 5 = .ok (.sipush 256, 3) := by decide +kernel
theorem dX2_init_8 : decode cX2_init 8 = .ok (.newarray .int, 2) := by decide +kernel
theorem dX2_init_10 : decode cX2_init 10 = .ok (.putfield 11, 3) := by decide +kernel
theorem dX2_init_13 : decode cX2_init 13 = .ok (.aload_n 0, 1) := by decide +kernel
theorem dX2_init_14 : decode cX2_init 14 = .ok (.sipush 256, 3) := by decide +kernel
theorem dX2_init_17 : decode cX2_init 17 = .ok (.newarray .int, 2) := by decide +kernel
theorem dX2_init_19 : decode cX2_init 19 = .ok (.putfield 15, 3) := by decide +kernel
theorem dX2_init_22 : decode cX2_init 22 = .ok (.aload_n 0, 1) := by decide +kernel
theorem dX2_init_23 : decode cX2_init 23 = .ok (.sipush 256, 3) := by decide +kernel
theorem dX2_init_26 : decode cX2_init 26 = .ok (.newarray .int, 2) := by decide +kernel
theorem dX2_init_28 : decode cX2_init 28 = .ok (.putfield 18, 3) := by decide +kernel
theorem dX2_init_31 : decode cX2_init 31 = .ok (.aload_n 0, 1) := by decide +kernel
theorem dX2_init_32 : decode cX2_init 32 = .ok (.sipush 256, 3) := by decide +kernel
theorem dX2_init_35 : decode cX2_init 35 = .ok (.newarray .int, 2) := by decide +kernel
theorem dX2_init_37 : decode cX2_init 37 = .ok (.putfield 21, 3) := by decide +kernel
theorem dX2_init_40 : decode cX2_init 40 = .ok (.aload_n 0, 1) := by decide +kernel
theorem dX2_init_41 : decode cX2_init 41 = .ok (.bipush 100, 2) := by decide +kernel
theorem dX2_init_43 : decode cX2_init 43 = .ok (.newarray .int, 2) := by decide +kernel
theorem dX2_init_45 : decode cX2_init 45 = .ok (.putfield 24, 3) := by decide +kernel
theorem dX2_init_48 : decode cX2_init 48 = .ok (.aload_n 0, 1) := by decide +kernel
theorem dX2_init_49 : decode cX2_init 49 = .ok (.iconst 3, 1) := by decide +kernel
theorem dX2_init_50 : decode cX2_init 50 = .ok (.newarray .int, 2) := by decide +kernel
theorem dX2_init_52 : decode cX2_init 52 = .ok (.putfield 27, 3) := by decide +kernel
theorem dX2_init_55 : decode cX2_init 55 = .ok (.aload_n 0, 1) := by decide +kernel
theorem dX2_init_56 : decode cX2_init 56 = .ok (.iconst 3, 1) := by decide +kernel
theorem dX2_init_57 : decode cX2_init 57 = .ok (.newarray .int, 2) := by decide +kernel
theorem dX2_init_59 : decode cX2_init 59 = .ok (.putfield 30, 3) := by decide +kernel
theorem dX2_init_62 : decode cX2_init 62 = .ok (.aload_n 0, 1) := by decide +kernel
theorem dX2_init_63 : decode cX2_init 63 = .ok (.iconst 3, 1) := by decide +kernel
theorem dX2_init_64 : decode cX2_init 64 = .ok (.newarray .int, 2) := by decide +kernel
theorem dX2_init_66 : decode cX2_init 66 = .ok (.putfield 33, 3) := by decide +kernel
theorem dX2_init_69 : decode cX2_init 69 = .ok (.aload_n 0, 1) := by decide +kernel
theorem dX2_init_70 : decode cX2_init 70 = .ok (.iconst 2, 1) := by decide +kernel
theorem dX2_init_71 : decode cX2_init 71 = .ok (.putfield 36, 3) := by decide +kernel
theorem dX2_init_74 : decode cX2_init 74 = .ok (.aload_n 0, 1) := by decide +kernel
theorem dX2_init_75 : decode cX2_init 75 = .ok (.iconst 0, 1) := by decide +kernel
theorem dX2_init_76 : decode cX2_init 76 = .ok (.putfield 40, 3) := by decide +kernel
theorem dX2_init_79 : decode cX2_init 79 = .ok (.aload_n 0, 1) := by decide +kernel
theorem dX2_init_80 : decode cX2_init 80 = .ok (.iconst 1, 1) := by decide +kernel
theorem dX2_init_81 : decode cX2_init 81 = .ok (.putfield 43, 3) := by decide +kernel
theorem dX2_init_84 : decode cX2_init 84 = .ok (.aload_n 0, 1) := by decide +kernel
theorem dX2_init_85 : decode cX2_init 85 = .ok (.iconst 0, 1) := by decide +kernel
theorem dX2_init_86 : decode cX2_init 86 = .ok (.putfield 46, 3) := by decide +kernel
theorem dX2_init_89 : decode cX2_init 89 = .ok (.aload_n 0, 1) := by decide +kernel
theorem dX2_init_90 : decode cX2_init 90 = .ok (.iconst (-1), 1) := by decide +kernel
theorem dX2_init_91 : decode cX2_init 91 = .ok (.putfield 49, 3) := by decide +kernel
theorem dX2_init_94 : decode cX2_init 94 = .ok (.aload_n 0, 1) := by decide +kernel
theorem dX2_init_95 : decode cX2_init 95 = .ok (.iconst 0, 1) := by decide +kernel
theorem dX2_init_96 : decode cX2_init 96 = .ok (.putfield 52, 3) := by decide +kernel
theorem dX2_init_99 : decode cX2_init 99 = .ok (.aload_n 0, 1) := by decide +kernel
theorem dX2_init_100 : decode cX2_init 100 = .ok (.iconst 0, 1) := by decide +kernel
theorem dX2_init_101 : decode cX2_init 101 = .ok (.putfield 55, 3) := by decide +kernel
theorem dX2_init_104 : decode cX2_init 104 = .ok (.aload_n 0, 1) := by decide +kernel
theorem dX2_init_105 : decode cX2_init 105 = .ok (.iconst 0, 1) := by decide +kernel
theorem dX2_init_106 : decode cX2_init 106 = .ok (.putfield 59, 3) := by decide +kernel
theorem dX2_init_109 : decode cX2_init 109 = .ok (.aload_n 0, 1) := by decide +kernel
theorem dX2_init_110 : decode cX2_init 110 = .ok (.iconst 0, 1) := by decide +kernel
theorem dX2_init_111 : decode cX2_init 111 = .ok (.putfield 62, 3) := by decide +kernel
theorem dX2_init_114 : decode cX2_init 114 = .ok (.return_, 1) := by decide +kernel
theorem dX2_forget_0 : decode cX2_forget 0 = .ok (.aload_n 0, 1) := by decide +kernel
theorem dX2_forget_1 : decode cX2_forget 1 = .ok (.iconst 0, 1) := by decide +kernel
theorem dX2_forget_2 : decode cX2_forget 2 = .ok (.putfield 55, 3) := by decide +kernel
theorem dX2_forget_5 : decode cX2_forget 5 = .ok (.aload_n 0, 1) := by decide +kernel
theorem dX2_forget_6 : decode cX2_forget 6 = .ok (.iconst 0, 1) := by decide +kernel
theorem dX2_forget_7 : decode cX2_forget 7 = .ok (.putfield 59, 3) := by decide +kernel
theorem dX2_forget_10 : decode cX2_forget 10 = .ok (.aload_n 0, 1) := by decide +kernel
theorem dX2_forget_11 : decode cX2_forget 11 = .ok (.iconst 0, 1) := by decide +kernel
theorem dX2_forget_12 : decode cX2_forget 12 = .ok (.putfield 62, 3) := by decide +kernel
theorem dX2_forget_15 : decode cX2_forget 15 = .ok (.return_, 1) := by decide +kernel
theorem dX2_hasChoice_0 : decode cX2_hasChoice 0 = .ok (.aload_n 0, 1) := by decide +kernel
theorem dX2_hasChoice_1 : decode cX2_hasChoice 1 = .ok (.getfield 49, 3) := by decide +kernel
theorem dX2_hasChoice_4 : decode cX2_hasChoice 4 = .ok (.iconst (-1), 1) := by decide +kernel
theorem dX2_hasChoice_5 : decode cX2_hasChoice 5 = .ok (.if_icmp .eq 7, 3) := by decide +kernel
theorem dX2_hasChoice_8 : decode cX2_hasChoice 8 = .ok (.iconst 1, 1) := by decide +kernel
theorem dX2_hasChoice_9 : decode cX2_hasChoice 9 = .ok (.goto 4, 3) := by decide +kernel
theorem dX2_hasChoice_12 : decode cX2_hasChoice 12 = .ok (.iconst 0, 1) := by decide +kernel
theorem dX2_hasChoice_13 : decode cX2_hasChoice 13 = .ok (.ireturn, 1) := by decide +kernel
theorem dX2_bestFares_0 : decode cX2_bestFares 0 = .ok (.aload_n 0, 1) := by decide +kernel
theorem dX2_bestFares_1 : decode cX2_bestFares 1 = .ok (.invokevirtual 65, 3) := by decide +kernel
theorem dX2_bestFares_4 : decode cX2_bestFares 4 = .ok (.ifCond .eq 13, 3) := by decide +kernel
theorem dX2_bestFares_7 : decode cX2_bestFares 7 = .ok (.aload_n 0, 1) := by decide +kernel
theorem dX2_bestFares_8 : decode cX2_bestFares 8 = .ok (.getfield 49, 3) := by decide +kernel
theorem dX2_bestFares_11 : decode cX2_bestFares 11 = .ok (.bipush 16, 2) := by decide +kernel
theorem dX2_bestFares_13 : decode cX2_bestFares 13 = .ok (.idiv, 1) := by decide +kernel
theorem dX2_bestFares_14 : decode cX2_bestFares 14 = .ok (.goto 4, 3) := by decide +kernel
theorem dX2_bestFares_17 : decode cX2_bestFares 17 = .ok (.iconst 0, 1) := by decide +kernel
theorem dX2_bestFares_18 : decode cX2_bestFares 18 = .ok (.ireturn, 1) := by decide +kernel
theorem dX2_faresWithout_0 : decode cX2_faresWithout 0 = .ok (.iconst 0, 1) := by decide +kernel
theorem dX2_faresWithout_1 : decode cX2_faresWithout 1 = .ok (.istore_n 2, 1) := by decide +kernel
theorem dX2_faresWithout_2 : decode cX2_faresWithout 2 = .ok (.iconst 1, 1) := by decide +kernel
theorem dX2_faresWithout_3 : decode cX2_faresWithout 3 = .ok (.istore_n 3, 1) := by decide +kernel
theorem dX2_faresWithout_4 : decode cX2_faresWithout 4 = .ok (.iload_n 3, 1) := by decide +kernel
theorem dX2_faresWithout_5 : decode cX2_faresWithout 5 = .ok (.aload_n 0, 1) := by decide +kernel
theorem dX2_faresWithout_6 : decode cX2_faresWithout 6 = .ok (.getfield 43, 3) := by decide +kernel
theorem dX2_faresWithout_9 : decode cX2_faresWithout 9 = .ok (.if_icmp .ge 38, 3) := by decide +kernel
theorem dX2_faresWithout_12 : decode cX2_faresWithout 12 = .ok (.aload_n 0, 1) := by decide +kernel
theorem dX2_faresWithout_13 : decode cX2_faresWithout 13 = .ok (.getfield 21, 3) := by decide +kernel
theorem dX2_faresWithout_16 : decode cX2_faresWithout 16 = .ok (.iload_n 3, 1) := by decide +kernel
theorem dX2_faresWithout_17 : decode cX2_faresWithout 17 = .ok (.iaload, 1) := by decide +kernel
theorem dX2_faresWithout_18 : decode cX2_faresWithout 18 = .ok (.iconst 1, 1) := by decide +kernel
theorem dX2_faresWithout_19 : decode cX2_faresWithout 19 = .ok (.if_icmp .ne 22, 3) := by decide +kernel
theorem dX2_faresWithout_22 : decode cX2_faresWithout 22 = .ok (.iload_n 3, 1) := by decide +kernel
theorem dX2_faresWithout_23 : decode cX2_faresWithout 23 = .ok (.iload_n 1, 1) := by decide +kernel
theorem dX2_faresWithout_24 : decode cX2_faresWithout 24 = .ok (.ishr, 1) := by decide +kernel
theorem dX2_faresWithout_25 : decode cX2_faresWithout 25 = .ok (.iconst 1, 1) := by decide +kernel
theorem dX2_faresWithout_26 : decode cX2_faresWithout 26 = .ok (.iand, 1) := by decide +kernel
theorem dX2_faresWithout_27 : decode cX2_faresWithout 27 = .ok (.ifCond .ne 14, 3) := by decide +kernel
theorem dX2_faresWithout_30 : decode cX2_faresWithout 30 = .ok (.iload_n 2, 1) := by decide +kernel
theorem dX2_faresWithout_31 : decode cX2_faresWithout 31 = .ok (.aload_n 0, 1) := by decide +kernel
theorem dX2_faresWithout_32 : decode cX2_faresWithout 32 = .ok (.getfield 15, 3) := by decide +kernel
theorem dX2_faresWithout_35 : decode cX2_faresWithout 35 = .ok (.iload_n 3, 1) := by decide +kernel
theorem dX2_faresWithout_36 : decode cX2_faresWithout 36 = .ok (.iaload, 1) := by decide +kernel
theorem dX2_faresWithout_37 : decode cX2_faresWithout 37 = .ok (.invokestatic 69, 3) := by decide +kernel
theorem dX2_faresWithout_40 : decode cX2_faresWithout 40 = .ok (.istore_n 2, 1) := by decide +kernel
theorem dX2_faresWithout_41 : decode cX2_faresWithout 41 = .ok (.iinc 3 1, 3) := by decide +kernel
theorem dX2_faresWithout_44 : decode cX2_faresWithout 44 = .ok (.goto (-40), 3) := by decide +kernel
theorem dX2_faresWithout_47 : decode cX2_faresWithout 47 = .ok (.iload_n 2, 1) := by decide +kernel
theorem dX2_faresWithout_48 : decode cX2_faresWithout 48 = .ok (.ireturn, 1) := by decide +kernel
theorem dX2_countSets_0 : decode cX2_countSets 0 = .ok (.iconst 0, 1) := by decide +kernel
theorem dX2_countSets_1 : decode cX2_countSets 1 = .ok (.istore_n 1, 1) := by decide +kernel
theorem dX2_countSets_2 : decode cX2_countSets 2 = .ok (.iconst 1, 1) := by decide +kernel
theorem dX2_countSets_3 : decode cX2_countSets 3 = .ok (.istore_n 2, 1) := by decide +kernel
theorem dX2_countSets_4 : decode cX2_countSets 4 = .ok (.iload_n 2, 1) := by decide +kernel
theorem dX2_countSets_5 : decode cX2_countSets 5 = .ok (.aload_n 0, 1) := by decide +kernel
theorem dX2_countSets_6 : decode cX2_countSets 6 = .ok (.getfield 43, 3) := by decide +kernel
theorem dX2_countSets_9 : decode cX2_countSets 9 = .ok (.if_icmp .ge 22, 3) := by decide +kernel
theorem dX2_countSets_12 : decode cX2_countSets 12 = .ok (.aload_n 0, 1) := by decide +kernel
theorem dX2_countSets_13 : decode cX2_countSets 13 = .ok (.getfield 21, 3) := by decide +kernel
theorem dX2_countSets_16 : decode cX2_countSets 16 = .ok (.iload_n 2, 1) := by decide +kernel
theorem dX2_countSets_17 : decode cX2_countSets 17 = .ok (.iaload, 1) := by decide +kernel
theorem dX2_countSets_18 : decode cX2_countSets 18 = .ok (.iconst 1, 1) := by decide +kernel
theorem dX2_countSets_19 : decode cX2_countSets 19 = .ok (.if_icmp .ne 6, 3) := by decide +kernel
theorem dX2_countSets_22 : decode cX2_countSets 22 = .ok (.iinc 1 1, 3) := by decide +kernel
theorem dX2_countSets_25 : decode cX2_countSets 25 = .ok (.iinc 2 1, 3) := by decide +kernel
theorem dX2_countSets_28 : decode cX2_countSets 28 = .ok (.goto (-24), 3) := by decide +kernel
theorem dX2_countSets_31 : decode cX2_countSets 31 = .ok (.iload_n 1, 1) := by decide +kernel
theorem dX2_countSets_32 : decode cX2_countSets 32 = .ok (.ireturn, 1) := by decide +kernel
theorem dX2_faresWithin_0 : decode cX2_faresWithin 0 = .ok (.iconst 0, 1) := by decide +kernel
theorem dX2_faresWithin_1 : decode cX2_faresWithin 1 = .ok (.istore_n 2, 1) := by decide +kernel
theorem dX2_faresWithin_2 : decode cX2_faresWithin 2 = .ok (.iconst 1, 1) := by decide +kernel
theorem dX2_faresWithin_3 : decode cX2_faresWithin 3 = .ok (.istore_n 3, 1) := by decide +kernel
theorem dX2_faresWithin_4 : decode cX2_faresWithin 4 = .ok (.iload_n 3, 1) := by decide +kernel
theorem dX2_faresWithin_5 : decode cX2_faresWithin 5 = .ok (.aload_n 0, 1) := by decide +kernel
theorem dX2_faresWithin_6 : decode cX2_faresWithin 6 = .ok (.getfield 43, 3) := by decide +kernel
theorem dX2_faresWithin_9 : decode cX2_faresWithin 9 = .ok (.if_icmp .ge 30, 3) := by decide +kernel
theorem dX2_faresWithin_12 : decode cX2_faresWithin 12 = .ok (.aload_n 0, 1) := by decide +kernel
theorem dX2_faresWithin_13 : decode cX2_faresWithin 13 = .ok (.getfield 21, 3) := by decide +kernel
theorem dX2_faresWithin_16 : decode cX2_faresWithin 16 = .ok (.iload_n 3, 1) := by decide +kernel
theorem dX2_faresWithin_17 : decode cX2_faresWithin 17 = .ok (.iaload, 1) := by decide +kernel
theorem dX2_faresWithin_18 : decode cX2_faresWithin 18 = .ok (.iload_n 1, 1) := by decide +kernel
theorem dX2_faresWithin_19 : decode cX2_faresWithin 19 = .ok (.if_icmp .gt 14, 3) := by decide +kernel
theorem dX2_faresWithin_22 : decode cX2_faresWithin 22 = .ok (.iload_n 2, 1) := by decide +kernel
theorem dX2_faresWithin_23 : decode cX2_faresWithin 23 = .ok (.aload_n 0, 1) := by decide +kernel
theorem dX2_faresWithin_24 : decode cX2_faresWithin 24 = .ok (.getfield 15, 3) := by decide +kernel
theorem dX2_faresWithin_27 : decode cX2_faresWithin 27 = .ok (.iload_n 3, 1) := by decide +kernel
theorem dX2_faresWithin_28 : decode cX2_faresWithin 28 = .ok (.iaload, 1) := by decide +kernel
theorem dX2_faresWithin_29 : decode cX2_faresWithin 29 = .ok (.invokestatic 69, 3) := by decide +kernel
theorem dX2_faresWithin_32 : decode cX2_faresWithin 32 = .ok (.istore_n 2, 1) := by decide +kernel
theorem dX2_faresWithin_33 : decode cX2_faresWithin 33 = .ok (.iinc 3 1, 3) := by decide +kernel
theorem dX2_faresWithin_36 : decode cX2_faresWithin 36 = .ok (.goto (-32), 3) := by decide +kernel
theorem dX2_faresWithin_39 : decode cX2_faresWithin 39 = .ok (.iload_n 2, 1) := by decide +kernel
theorem dX2_faresWithin_40 : decode cX2_faresWithin 40 = .ok (.ireturn, 1) := by decide +kernel
theorem dX2_fewestForAll_0 : decode cX2_fewestForAll 0 = .ok (.aload_n 0, 1) := by decide +kernel
theorem dX2_fewestForAll_1 : decode cX2_fewestForAll 1 = .ok (.getfield 21, 3) := by decide +kernel
theorem dX2_fewestForAll_4 : decode cX2_fewestForAll 4 = .ok (.aload_n 0, 1) := by decide +kernel
theorem dX2_fewestForAll_5 : decode cX2_fewestForAll 5 = .ok (.getfield 46, 3) := by decide +kernel
theorem dX2_fewestForAll_8 : decode cX2_fewestForAll 8 = .ok (.sipush 255, 3) := by decide +kernel
theorem dX2_fewestForAll_11 : decode cX2_fewestForAll 11 = .ok (.iand, 1) := by decide +kernel
theorem dX2_fewestForAll_12 : decode cX2_fewestForAll 12 = .ok (.iaload, 1) := by decide +kernel
theorem dX2_fewestForAll_13 : decode cX2_fewestForAll 13 = .ok (.istore_n 1, 1) := by decide +kernel
theorem dX2_fewestForAll_14 : decode cX2_fewestForAll 14 = .ok (.iload_n 1, 1) := by decide +kernel
theorem dX2_fewestForAll_15 : decode cX2_fewestForAll 15 = .ok (.bipush 99, 2) := by decide +kernel
theorem dX2_fewestForAll_17 : decode cX2_fewestForAll 17 = .ok (.if_icmp .ne 8, 3) := by decide +kernel
theorem dX2_fewestForAll_20 : decode cX2_fewestForAll 20 = .ok (.bipush (-9), 2) := by decide +kernel
theorem dX2_fewestForAll_22 : decode cX2_fewestForAll 22 = .ok (.goto 4, 3) := by decide +kernel
theorem dX2_fewestForAll_25 : decode cX2_fewestForAll 25 = .ok (.iload_n 1, 1) := by decide +kernel
theorem dX2_fewestForAll_26 : decode cX2_fewestForAll 26 = .ok (.ireturn, 1) := by decide +kernel
theorem dX2_madeBy_0 : decode cX2_madeBy 0 = .ok (.iload_n 1, 1) := by decide +kernel
theorem dX2_madeBy_1 : decode cX2_madeBy 1 = .ok (.iconst 1, 1) := by decide +kernel
theorem dX2_madeBy_2 : decode cX2_madeBy 2 = .ok (.if_icmp .lt 9, 3) := by decide +kernel
theorem dX2_madeBy_5 : decode cX2_madeBy 5 = .ok (.iload_n 1, 1) := by decide +kernel
theorem dX2_madeBy_6 : decode cX2_madeBy 6 = .ok (.bipush 99, 2) := by decide +kernel
theorem dX2_madeBy_8 : decode cX2_madeBy 8 = .ok (.if_icmp .le 5, 3) := by decide +kernel
theorem dX2_madeBy_11 : decode cX2_madeBy 11 = .ok (.iconst 0, 1) := by decide +kernel
theorem dX2_madeBy_12 : decode cX2_madeBy 12 = .ok (.ireturn, 1) := by decide +kernel
theorem dX2_madeBy_13 : decode cX2_madeBy 13 = .ok (.aload_n 0, 1) := by decide +kernel
theorem dX2_madeBy_14 : decode cX2_madeBy 14 = .ok (.getfield 24, 3) := by decide +kernel
theorem dX2_madeBy_17 : decode cX2_madeBy 17 = .ok (.iload_n 1, 1) := by decide +kernel
theorem dX2_madeBy_18 : decode cX2_madeBy 18 = .ok (.iaload, 1) := by decide +kernel
theorem dX2_madeBy_19 : decode cX2_madeBy 19 = .ok (.aload_n 0, 1) := by decide +kernel
theorem dX2_madeBy_20 : decode cX2_madeBy 20 = .ok (.invokevirtual 75, 3) := by decide +kernel
theorem dX2_madeBy_23 : decode cX2_madeBy 23 = .ok (.isub, 1) := by decide +kernel
theorem dX2_madeBy_24 : decode cX2_madeBy 24 = .ok (.ireturn, 1) := by decide +kernel
theorem dX2_bestMakeWeight_0 : decode cX2_bestMakeWeight 0 = .ok (.bipush (-9), 2) := by decide +kernel
theorem dX2_bestMakeWeight_2 : decode cX2_bestMakeWeight 2 = .ok (.istore_n 1, 1) := by decide +kernel
theorem dX2_bestMakeWeight_3 : decode cX2_bestMakeWeight 3 = .ok (.iconst 0, 1) := by decide +kernel
theorem dX2_bestMakeWeight_4 : decode cX2_bestMakeWeight 4 = .ok (.istore_n 2, 1) := by decide +kernel
theorem dX2_bestMakeWeight_5 : decode cX2_bestMakeWeight 5 = .ok (.iconst 1, 1) := by decide +kernel
theorem dX2_bestMakeWeight_6 : decode cX2_bestMakeWeight 6 = .ok (.istore_n 3, 1) := by decide +kernel
theorem dX2_bestMakeWeight_7 : decode cX2_bestMakeWeight 7 = .ok (.iload_n 3, 1) := by decide +kernel
theorem dX2_bestMakeWeight_8 : decode cX2_bestMakeWeight 8 = .ok (.bipush 99, 2) := by decide +kernel
theorem dX2_bestMakeWeight_10 : decode cX2_bestMakeWeight 10 = .ok (.if_icmp .gt 26, 3) := by decide +kernel
theorem dX2_bestMakeWeight_13 : decode cX2_bestMakeWeight 13 = .ok (.aload_n 0, 1) := by decide +kernel
theorem dX2_bestMakeWeight_14 : decode cX2_bestMakeWeight 14 = .ok (.iload_n 3, 1) := by decide +kernel
theorem dX2_bestMakeWeight_15 : decode cX2_bestMakeWeight 15 = .ok (.invokevirtual 79, 3) := by decide +kernel
theorem dX2_bestMakeWeight_18 : decode cX2_bestMakeWeight 18 = .ok (.iload_n 2, 1) := by decide +kernel
theorem dX2_bestMakeWeight_19 : decode cX2_bestMakeWeight 19 = .ok (.if_icmp .le 11, 3) := by decide +kernel
theorem dX2_bestMakeWeight_22 : decode cX2_bestMakeWeight 22 = .ok (.aload_n 0, 1) := by decide +kernel
theorem dX2_bestMakeWeight_23 : decode cX2_bestMakeWeight 23 = .ok (.iload_n 3, 1) := by decide +kernel
theorem dX2_bestMakeWeight_24 : decode cX2_bestMakeWeight 24 = .ok (.invokevirtual 79, 3) := by decide +kernel
theorem dX2_bestMakeWeight_27 : decode cX2_bestMakeWeight 27 = .ok (.istore_n 2, 1) := by decide +kernel
theorem dX2_bestMakeWeight_28 : decode cX2_bestMakeWeight 28 = .ok (.iload_n 3, 1) := by decide +kernel
theorem dX2_bestMakeWeight_29 : decode cX2_bestMakeWeight 29 = .ok (.istore_n 1, 1) := by decide +kernel
theorem dX2_bestMakeWeight_30 : decode cX2_bestMakeWeight 30 = .ok (.iinc 3 1, 3) := by decide +kernel
theorem dX2_bestMakeWeight_33 : decode cX2_bestMakeWeight 33 = .ok (.goto (-26), 3) := by decide +kernel
theorem dX2_bestMakeWeight_36 : decode cX2_bestMakeWeight 36 = .ok (.iload_n 1, 1) := by decide +kernel
theorem dX2_bestMakeWeight_37 : decode cX2_bestMakeWeight 37 = .ok (.ireturn, 1) := by decide +kernel
theorem dX2_findChoices_0 : decode cX2_findChoices 0 = .ok (.aload_n 0, 1) := by decide +kernel
theorem dX2_findChoices_1 : decode cX2_findChoices 1 = .ok (.getfield 55, 3) := by decide +kernel
theorem dX2_findChoices_4 : decode cX2_findChoices 4 = .ok (.ifCond .eq 4, 3) := by decide +kernel
theorem dX2_findChoices_7 : decode cX2_findChoices 7 = .ok (.return_, 1) := by decide +kernel
theorem dX2_findChoices_8 : decode cX2_findChoices 8 = .ok (.aload_n 0, 1) := by decide +kernel
theorem dX2_findChoices_9 : decode cX2_findChoices 9 = .ok (.aload_n 1, 1) := by decide +kernel
theorem dX2_findChoices_10 : decode cX2_findChoices 10 = .ok (.aload_n 2, 1) := by decide +kernel
theorem dX2_findChoices_11 : decode cX2_findChoices 11 = .ok (.invokevirtual 83, 3) := by decide +kernel
theorem dX2_findChoices_14 : decode cX2_findChoices 14 = .ok (.aload_n 0, 1) := by decide +kernel
theorem dX2_findChoices_15 : decode cX2_findChoices 15 = .ok (.aload_n 1, 1) := by decide +kernel
theorem dX2_findChoices_16 : decode cX2_findChoices 16 = .ok (.aload_n 2, 1) := by decide +kernel
theorem dX2_findChoices_17 : decode cX2_findChoices 17 = .ok (.invokevirtual 87, 3) := by decide +kernel
theorem dX2_findChoices_20 : decode cX2_findChoices 20 = .ok (.aload_n 0, 1) := by decide +kernel
theorem dX2_findChoices_21 : decode cX2_findChoices 21 = .ok (.iconst (-1), 1) := by decide +kernel
theorem dX2_findChoices_22 : decode cX2_findChoices 22 = .ok (.putfield 49, 3) := by decide +kernel
theorem dX2_findChoices_25 : decode cX2_findChoices 25 = .ok (.aload_n 0, 1) := by decide +kernel
theorem dX2_findChoices_26 : decode cX2_findChoices 26 = .ok (.iconst 0, 1) := by decide +kernel
theorem dX2_findChoices_27 : decode cX2_findChoices 27 = .ok (.putfield 52, 3) := by decide +kernel
theorem dX2_findChoices_30 : decode cX2_findChoices 30 = .ok (.aload_n 0, 1) := by decide +kernel
theorem dX2_findChoices_31 : decode cX2_findChoices 31 = .ok (.aload_n 0, 1) := by decide +kernel
theorem dX2_findChoices_32 : decode cX2_findChoices 32 = .ok (.getfield 36, 3) := by decide +kernel
theorem dX2_findChoices_35 : decode cX2_findChoices 35 = .ok (.iconst 1, 1) := by decide +kernel
theorem dX2_findChoices_36 : decode cX2_findChoices 36 = .ok (.isub, 1) := by decide +kernel
theorem dX2_findChoices_37 : decode cX2_findChoices 37 = .ok (.iconst 0, 1) := by decide +kernel
theorem dX2_findChoices_38 : decode cX2_findChoices 38 = .ok (.invokevirtual 90, 3) := by decide +kernel
theorem dX2_findChoices_41 : decode cX2_findChoices 41 = .ok (.aload_n 0, 1) := by decide +kernel
theorem dX2_findChoices_42 : decode cX2_findChoices 42 = .ok (.iconst 1, 1) := by decide +kernel
theorem dX2_findChoices_43 : decode cX2_findChoices 43 = .ok (.putfield 55, 3) := by decide +kernel
theorem dX2_findChoices_46 : decode cX2_findChoices 46 = .ok (.return_, 1) := by decide +kernel
theorem dX2_findMakeWeights_0 : decode cX2_findMakeWeights 0 = .ok (.aload_n 0, 1) := by decide +kernel
theorem dX2_findMakeWeights_1 : decode cX2_findMakeWeights 1 = .ok (.getfield 62, 3) := by decide +kernel
theorem dX2_findMakeWeights_4 : decode cX2_findMakeWeights 4 = .ok (.ifCond .eq 4, 3) := by decide +kernel
theorem dX2_findMakeWeights_7 : decode cX2_findMakeWeights 7 = .ok (.return_, 1) := by decide +kernel
theorem dX2_findMakeWeights_8 : decode cX2_findMakeWeights 8 = .ok (.iconst 0, 1) := by decide +kernel
theorem dX2_findMakeWeights_9 : decode cX2_findMakeWeights 9 = .ok (.istore_n 1, 1) := by decide +kernel
theorem dX2_findMakeWeights_10 : decode cX2_findMakeWeights 10 = .ok (.iload_n 1, 1) := by decide +kernel
theorem dX2_findMakeWeights_11 : decode cX2_findMakeWeights 11 = .ok (.bipush 99, 2) := by decide +kernel
theorem dX2_findMakeWeights_13 : decode cX2_findMakeWeights 13 = .ok (.if_icmp .gt 19, 3) := by decide +kernel
theorem dX2_findMakeWeights_16 : decode cX2_findMakeWeights 16 = .ok (.aload_n 0, 1) := by decide +kernel
theorem dX2_findMakeWeights_17 : decode cX2_findMakeWeights 17 = .ok (.getfield 24, 3) := by decide +kernel
theorem dX2_findMakeWeights_20 : decode cX2_findMakeWeights 20 = .ok (.iload_n 1, 1) := by decide +kernel
theorem dX2_findMakeWeights_21 : decode cX2_findMakeWeights 21 = .ok (.aload_n 0, 1) := by decide +kernel
theorem dX2_findMakeWeights_22 : decode cX2_findMakeWeights 22 = .ok (.invokevirtual 75, 3) := by decide +kernel
theorem dX2_findMakeWeights_25 : decode cX2_findMakeWeights 25 = .ok (.iastore, 1) := by decide +kernel
theorem dX2_findMakeWeights_26 : decode cX2_findMakeWeights 26 = .ok (.iinc 1 1, 3) := by decide +kernel
theorem dX2_findMakeWeights_29 : decode cX2_findMakeWeights 29 = .ok (.goto (-19), 3) := by decide +kernel
theorem dX2_findMakeWeights_32 : decode cX2_findMakeWeights 32 = .ok (.iconst 0, 1) := by decide +kernel
theorem dX2_findMakeWeights_33 : decode cX2_findMakeWeights 33 = .ok (.istore_n 1, 1) := by decide +kernel
theorem dX2_findMakeWeights_34 : decode cX2_findMakeWeights 34 = .ok (.iload_n 1, 1) := by decide +kernel
theorem dX2_findMakeWeights_35 : decode cX2_findMakeWeights 35 = .ok (.aload_n 0, 1) := by decide +kernel
theorem dX2_findMakeWeights_36 : decode cX2_findMakeWeights 36 = .ok (.getfield 36, 3) := by decide +kernel
theorem dX2_findMakeWeights_39 : decode cX2_findMakeWeights 39 = .ok (.if_icmp .ge 15, 3) := by decide +kernel
theorem dX2_findMakeWeights_42 : decode cX2_findMakeWeights 42 = .ok (.aload_n 0, 1) := by decide +kernel
theorem dX2_findMakeWeights_43 : decode cX2_findMakeWeights 43 = .ok (.iload_n 1, 1) := by decide +kernel
theorem dX2_findMakeWeights_44 : decode cX2_findMakeWeights 44 = .ok (.iconst 1, 1) := by decide +kernel
theorem dX2_findMakeWeights_45 : decode cX2_findMakeWeights 45 = .ok (.invokevirtual 90, 3) := by decide +kernel
theorem dX2_findMakeWeights_48 : decode cX2_findMakeWeights 48 = .ok (.iinc 1 1, 3) := by decide +kernel
theorem dX2_findMakeWeights_51 : decode cX2_findMakeWeights 51 = .ok (.goto (-17), 3) := by decide +kernel
theorem dX2_findMakeWeights_54 : decode cX2_findMakeWeights 54 = .ok (.aload_n 0, 1) := by decide +kernel
theorem dX2_findMakeWeights_55 : decode cX2_findMakeWeights 55 = .ok (.iconst 1, 1) := by decide +kernel
theorem dX2_findMakeWeights_56 : decode cX2_findMakeWeights 56 = .ok (.putfield 62, 3) := by decide +kernel
theorem dX2_findMakeWeights_59 : decode cX2_findMakeWeights 59 = .ok (.return_, 1) := by decide +kernel
theorem dX2_findChains_0 : decode cX2_findChains 0 = .ok (.aload_n 0, 1) := by decide +kernel
theorem dX2_findChains_1 : decode cX2_findChains 1 = .ok (.getfield 59, 3) := by decide +kernel
theorem dX2_findChains_4 : decode cX2_findChains 4 = .ok (.ifCond .eq 4, 3) := by decide +kernel
theorem dX2_findChains_7 : decode cX2_findChains 7 = .ok (.return_, 1) := by decide +kernel
theorem dX2_findChains_8 : decode cX2_findChains 8 = .ok (.iconst 1, 1) := by decide +kernel
theorem dX2_findChains_9 : decode cX2_findChains 9 = .ok (.istore_n 1, 1) := by decide +kernel
theorem dX2_findChains_10 : decode cX2_findChains 10 = .ok (.iload_n 1, 1) := by decide +kernel
theorem dX2_findChains_11 : decode cX2_findChains 11 = .ok (.aload_n 0, 1) := by decide +kernel
theorem dX2_findChains_12 : decode cX2_findChains 12 = .ok (.getfield 43, 3) := by decide +kernel
theorem dX2_findChains_15 : decode cX2_findChains 15 = .ok (.if_icmp .ge 30, 3) := by decide +kernel
theorem dX2_findChains_18 : decode cX2_findChains 18 = .ok (.aload_n 0, 1) := by decide +kernel
theorem dX2_findChains_19 : decode cX2_findChains 19 = .ok (.getfield 21, 3) := by decide +kernel
theorem dX2_findChains_22 : decode cX2_findChains 22 = .ok (.iload_n 1, 1) := by decide +kernel
theorem dX2_findChains_23 : decode cX2_findChains 23 = .ok (.iaload, 1) := by decide +kernel
theorem dX2_findChains_24 : decode cX2_findChains 24 = .ok (.iconst 1, 1) := by decide +kernel
theorem dX2_findChains_25 : decode cX2_findChains 25 = .ok (.if_icmp .eq 14, 3) := by decide +kernel
theorem dX2_findChains_28 : decode cX2_findChains 28 = .ok (.aload_n 0, 1) := by decide +kernel
theorem dX2_findChains_29 : decode cX2_findChains 29 = .ok (.getfield 21, 3) := by decide +kernel
theorem dX2_findChains_32 : decode cX2_findChains 32 = .ok (.iload_n 1, 1) := by decide +kernel
theorem dX2_findChains_33 : decode cX2_findChains 33 = .ok (.aload_n 0, 1) := by decide +kernel
theorem dX2_findChains_34 : decode cX2_findChains 34 = .ok (.iload_n 1, 1) := by decide +kernel
theorem dX2_findChains_35 : decode cX2_findChains 35 = .ok (.invokevirtual 94, 3) := by decide +kernel
theorem dX2_findChains_38 : decode cX2_findChains 38 = .ok (.iastore, 1) := by decide +kernel
theorem dX2_findChains_39 : decode cX2_findChains 39 = .ok (.iinc 1 1, 3) := by decide +kernel
theorem dX2_findChains_42 : decode cX2_findChains 42 = .ok (.goto (-32), 3) := by decide +kernel
theorem dX2_findChains_45 : decode cX2_findChains 45 = .ok (.aload_n 0, 1) := by decide +kernel
theorem dX2_findChains_46 : decode cX2_findChains 46 = .ok (.iconst 1, 1) := by decide +kernel
theorem dX2_findChains_47 : decode cX2_findChains 47 = .ok (.putfield 59, 3) := by decide +kernel
theorem dX2_findChains_50 : decode cX2_findChains 50 = .ok (.return_, 1) := by decide +kernel
theorem dX2_fewestOf_0 : decode cX2_fewestOf 0 = .ok (.iload_n 1, 1) := by decide +kernel
theorem dX2_fewestOf_1 : decode cX2_fewestOf 1 = .ok (.iload_n 1, 1) := by decide +kernel
theorem dX2_fewestOf_2 : decode cX2_fewestOf 2 = .ok (.iconst 1, 1) := by decide +kernel
theorem dX2_fewestOf_3 : decode cX2_fewestOf 3 = .ok (.isub, 1) := by decide +kernel
theorem dX2_fewestOf_4 : decode cX2_fewestOf 4 = .ok (.iand, 1) := by decide +kernel
theorem dX2_fewestOf_5 : decode cX2_fewestOf 5 = .ok (.istore_n 2, 1) := by decide +kernel
theorem dX2_fewestOf_6 : decode cX2_fewestOf 6 = .ok (.iload_n 1, 1) := by decide +kernel
theorem dX2_fewestOf_7 : decode cX2_fewestOf 7 = .ok (.iload_n 2, 1) := by decide +kernel
theorem dX2_fewestOf_8 : decode cX2_fewestOf 8 = .ok (.isub, 1) := by decide +kernel
theorem dX2_fewestOf_9 : decode cX2_fewestOf 9 = .ok (.istore_n 3, 1) := by decide +kernel
theorem dX2_fewestOf_10 : decode cX2_fewestOf 10 = .ok (.bipush 99, 2) := by decide +kernel
theorem dX2_fewestOf_12 : decode cX2_fewestOf 12 = .ok (.istore 4, 2) := by decide +kernel
theorem dX2_fewestOf_14 : decode cX2_fewestOf 14 = .ok (.iload_n 2, 1) := by decide +kernel
theorem dX2_fewestOf_15 : decode cX2_fewestOf 15 = .ok (.istore 5, 2) := by decide +kernel
theorem dX2_fewestOf_17 : decode cX2_fewestOf 17 = .ok (.iload 5, 2) := by decide +kernel
theorem dX2_fewestOf_19 : decode cX2_fewestOf 19 = .ok (.ifCond .lt 56, 3) := by decide +kernel
theorem dX2_fewestOf_22 : decode cX2_fewestOf 22 = .ok (.aload_n 0, 1) := by decide +kernel
theorem dX2_fewestOf_23 : decode cX2_fewestOf 23 = .ok (.getfield 21, 3) := by decide +kernel
theorem dX2_fewestOf_26 : decode cX2_fewestOf 26 = .ok (.iload_n 3, 1) := by decide +kernel
theorem dX2_fewestOf_27 : decode cX2_fewestOf 27 = .ok (.iload 5, 2) := by decide +kernel
theorem dX2_fewestOf_29 : decode cX2_fewestOf 29 = .ok (.ior, 1) := by decide +kernel
theorem dX2_fewestOf_30 : decode cX2_fewestOf 30 = .ok (.iaload, 1) := by decide +kernel
theorem dX2_fewestOf_31 : decode cX2_fewestOf 31 = .ok (.iconst 1, 1) := by decide +kernel
theorem dX2_fewestOf_32 : decode cX2_fewestOf 32 = .ok (.if_icmp .ne 23, 3) := by decide +kernel
theorem dX2_fewestOf_35 : decode cX2_fewestOf 35 = .ok (.iload 4, 2) := by decide +kernel
theorem dX2_fewestOf_37 : decode cX2_fewestOf 37 = .ok (.iconst 1, 1) := by decide +kernel
theorem dX2_fewestOf_38 : decode cX2_fewestOf 38 = .ok (.aload_n 0, 1) := by decide +kernel
theorem dX2_fewestOf_39 : decode cX2_fewestOf 39 = .ok (.getfield 21, 3) := by decide +kernel
theorem dX2_fewestOf_42 : decode cX2_fewestOf 42 = .ok (.iload_n 2, 1) := by decide +kernel
theorem dX2_fewestOf_43 : decode cX2_fewestOf 43 = .ok (.iload 5, 2) := by decide +kernel
theorem dX2_fewestOf_45 : decode cX2_fewestOf 45 = .ok (.iconst (-1), 1) := by decide +kernel
theorem dX2_fewestOf_46 : decode cX2_fewestOf 46 = .ok (.ixor, 1) := by decide +kernel
theorem dX2_fewestOf_47 : decode cX2_fewestOf 47 = .ok (.iand, 1) := by decide +kernel
theorem dX2_fewestOf_48 : decode cX2_fewestOf 48 = .ok (.iaload, 1) := by decide +kernel
theorem dX2_fewestOf_49 : decode cX2_fewestOf 49 = .ok (.iadd, 1) := by decide +kernel
theorem dX2_fewestOf_50 : decode cX2_fewestOf 50 = .ok (.invokestatic 97, 3) := by decide +kernel
theorem dX2_fewestOf_53 : decode cX2_fewestOf 53 = .ok (.istore 4, 2) := by decide +kernel
theorem dX2_fewestOf_55 : decode cX2_fewestOf 55 = .ok (.iload 5, 2) := by decide +kernel
theorem dX2_fewestOf_57 : decode cX2_fewestOf 57 = .ok (.ifCond .ne 7, 3) := by decide +kernel
theorem dX2_fewestOf_60 : decode cX2_fewestOf 60 = .ok (.iconst (-1), 1) := by decide +kernel
theorem dX2_fewestOf_61 : decode cX2_fewestOf 61 = .ok (.goto 9, 3) := by decide +kernel
theorem dX2_fewestOf_64 : decode cX2_fewestOf 64 = .ok (.iload 5, 2) := by decide +kernel
theorem dX2_fewestOf_66 : decode cX2_fewestOf 66 = .ok (.iconst 1, 1) := by decide +kernel
theorem dX2_fewestOf_67 : decode cX2_fewestOf 67 = .ok (.isub, 1) := by decide +kernel
theorem dX2_fewestOf_68 : decode cX2_fewestOf 68 = .ok (.iload_n 2, 1) := by decide +kernel
theorem dX2_fewestOf_69 : decode cX2_fewestOf 69 = .ok (.iand, 1) := by decide +kernel
theorem dX2_fewestOf_70 : decode cX2_fewestOf 70 = .ok (.istore 5, 2) := by decide +kernel
theorem dX2_fewestOf_72 : decode cX2_fewestOf 72 = .ok (.goto (-55), 3) := by decide +kernel
theorem dX2_fewestOf_75 : decode cX2_fewestOf 75 = .ok (.iload 4, 2) := by decide +kernel
theorem dX2_fewestOf_77 : decode cX2_fewestOf 77 = .ok (.bipush 99, 2) := by decide +kernel
theorem dX2_fewestOf_79 : decode cX2_fewestOf 79 = .ok (.invokestatic 97, 3) := by decide +kernel
theorem dX2_fewestOf_82 : decode cX2_fewestOf 82 = .ok (.ireturn, 1) := by decide +kernel
theorem dX2_prepare_0 : decode cX2_prepare 0 = .ok (.aload_n 0, 1) := by decide +kernel
theorem dX2_prepare_1 : decode cX2_prepare 1 = .ok (.aload_n 1, 1) := by decide +kernel
theorem dX2_prepare_2 : decode cX2_prepare 2 = .ok (.getfield 100, 3) := by decide +kernel
theorem dX2_prepare_5 : decode cX2_prepare 5 = .ok (.putfield 36, 3) := by decide +kernel
theorem dX2_prepare_8 : decode cX2_prepare 8 = .ok (.aload_n 0, 1) := by decide +kernel
theorem dX2_prepare_9 : decode cX2_prepare 9 = .ok (.aload_n 1, 1) := by decide +kernel
theorem dX2_prepare_10 : decode cX2_prepare 10 = .ok (.getfield 103, 3) := by decide +kernel
theorem dX2_prepare_13 : decode cX2_prepare 13 = .ok (.putfield 40, 3) := by decide +kernel
theorem dX2_prepare_16 : decode cX2_prepare 16 = .ok (.aload_n 0, 1) := by decide +kernel
theorem dX2_prepare_17 : decode cX2_prepare 17 = .ok (.iconst 1, 1) := by decide +kernel
theorem dX2_prepare_18 : decode cX2_prepare 18 = .ok (.aload_n 1, 1) := by decide +kernel
theorem dX2_prepare_19 : decode cX2_prepare 19 = .ok (.getfield 104, 3) := by decide +kernel
theorem dX2_prepare_22 : decode cX2_prepare 22 = .ok (.ishl, 1) := by decide +kernel
theorem dX2_prepare_23 : decode cX2_prepare 23 = .ok (.putfield 43, 3) := by decide +kernel
theorem dX2_prepare_26 : decode cX2_prepare 26 = .ok (.aload_n 0, 1) := by decide +kernel
theorem dX2_prepare_27 : decode cX2_prepare 27 = .ok (.aload_n 0, 1) := by decide +kernel
theorem dX2_prepare_28 : decode cX2_prepare 28 = .ok (.getfield 43, 3) := by decide +kernel
theorem dX2_prepare_31 : decode cX2_prepare 31 = .ok (.iconst 1, 1) := by decide +kernel
theorem dX2_prepare_32 : decode cX2_prepare 32 = .ok (.isub, 1) := by decide +kernel
theorem dX2_prepare_33 : decode cX2_prepare 33 = .ok (.aload_n 2, 1) := by decide +kernel
theorem dX2_prepare_34 : decode cX2_prepare 34 = .ok (.invokevirtual 107, 3) := by decide +kernel
theorem dX2_prepare_37 : decode cX2_prepare 37 = .ok (.iconst (-1), 1) := by decide +kernel
theorem dX2_prepare_38 : decode cX2_prepare 38 = .ok (.ixor, 1) := by decide +kernel
theorem dX2_prepare_39 : decode cX2_prepare 39 = .ok (.iand, 1) := by decide +kernel
theorem dX2_prepare_40 : decode cX2_prepare 40 = .ok (.putfield 46, 3) := by decide +kernel
theorem dX2_prepare_43 : decode cX2_prepare 43 = .ok (.iconst 0, 1) := by decide +kernel
theorem dX2_prepare_44 : decode cX2_prepare 44 = .ok (.istore_n 3, 1) := by decide +kernel
theorem dX2_prepare_45 : decode cX2_prepare 45 = .ok (.iload_n 3, 1) := by decide +kernel
theorem dX2_prepare_46 : decode cX2_prepare 46 = .ok (.iconst 3, 1) := by decide +kernel
theorem dX2_prepare_47 : decode cX2_prepare 47 = .ok (.if_icmp .ge 101, 3) := by decide +kernel
theorem dX2_prepare_50 : decode cX2_prepare 50 = .ok (.aload_n 0, 1) := by decide +kernel
theorem dX2_prepare_51 : decode cX2_prepare 51 = .ok (.getfield 30, 3) := by decide +kernel
theorem dX2_prepare_54 : decode cX2_prepare 54 = .ok (.iload_n 3, 1) := by decide +kernel
theorem dX2_prepare_55 : decode cX2_prepare 55 = .ok (.aload_n 1, 1) := by decide +kernel
theorem dX2_prepare_56 : decode cX2_prepare 56 = .ok (.iload_n 3, 1) := by decide +kernel
theorem dX2_prepare_57 : decode cX2_prepare 57 = .ok (.invokevirtual 112, 3) := by decide +kernel
theorem dX2_prepare_60 : decode cX2_prepare 60 = .ok (.iastore, 1) := by decide +kernel
theorem dX2_prepare_61 : decode cX2_prepare 61 = .ok (.aload_n 0, 1) := by decide +kernel
theorem dX2_prepare_62 : decode cX2_prepare 62 = .ok (.getfield 33, 3) := by decide +kernel
theorem dX2_prepare_65 : decode cX2_prepare 65 = .ok (.iload_n 3, 1) := by decide +kernel
theorem dX2_prepare_66 : decode cX2_prepare 66 = .ok (.iload_n 3, 1) := by decide +kernel
theorem dX2_prepare_67 : decode cX2_prepare 67 = .ok (.ifCond .ne 20, 3) := by decide +kernel
theorem dX2_prepare_70 : decode cX2_prepare 70 = .ok (.aload_n 0, 1) := by decide +kernel
theorem dX2_prepare_71 : decode cX2_prepare 71 = .ok (.getfield 30, 3) := by decide +kernel
theorem dX2_prepare_74 : decode cX2_prepare 74 = .ok (.iload_n 3, 1) := by decide +kernel
theorem dX2_prepare_75 : decode cX2_prepare 75 = .ok (.iaload, 1) := by decide +kernel
theorem dX2_prepare_76 : decode cX2_prepare 76 = .ok (.aload_n 1, 1) := by decide +kernel
theorem dX2_prepare_77 : decode cX2_prepare 77 = .ok (.getfield 115, 3) := by decide +kernel
theorem dX2_prepare_80 : decode cX2_prepare 80 = .ok (.imul, 1) := by decide +kernel
theorem dX2_prepare_81 : decode cX2_prepare 81 = .ok (.ldc 118, 2) := by decide +kernel
theorem dX2_prepare_83 : decode cX2_prepare 83 = .ok (.imul, 1) := by decide +kernel
theorem dX2_prepare_84 : decode cX2_prepare 84 = .ok (.goto 4, 3) := by decide +kernel
theorem dX2_prepare_87 : decode cX2_prepare 87 = .ok (.iconst 0, 1) := by decide +kernel
theorem dX2_prepare_88 : decode cX2_prepare 88 = .ok (.iastore, 1) := by decide +kernel
theorem dX2_prepare_89 : decode cX2_prepare 89 = .ok (.aload_n 0, 1) := by decide +kernel
theorem dX2_prepare_90 : decode cX2_prepare 90 = .ok (.getfield 27, 3) := by decide +kernel
theorem dX2_prepare_93 : decode cX2_prepare 93 = .ok (.iload_n 3, 1) := by decide +kernel
theorem dX2_prepare_94 : decode cX2_prepare 94 = .ok (.iconst 0, 1) := by decide +kernel
theorem dX2_prepare_95 : decode cX2_prepare 95 = .ok (.iastore, 1) := by decide +kernel
theorem dX2_prepare_96 : decode cX2_prepare 96 = .ok (.iconst 0, 1) := by decide +kernel
theorem dX2_prepare_97 : decode cX2_prepare 97 = .ok (.istore 4, 2) := by decide +kernel
theorem dX2_prepare_99 : decode cX2_prepare 99 = .ok (.iload 4, 2) := by decide +kernel
theorem dX2_prepare_101 : decode cX2_prepare 101 = .ok (.aload_n 1, 1) := by decide +kernel
theorem dX2_prepare_102 : decode cX2_prepare 102 = .ok (.getfield 104, 3) := by decide +kernel
theorem dX2_prepare_105 : decode cX2_prepare 105 = .ok (.if_icmp .ge 37, 3) := by decide +kernel
theorem dX2_prepare_108 : decode cX2_prepare 108 = .ok (.aload_n 1, 1) := by decide +kernel
theorem dX2_prepare_109 : decode cX2_prepare 109 = .ok (.iload 4, 2) := by decide +kernel
theorem dX2_prepare_111 : decode cX2_prepare 111 = .ok (.iload_n 3, 1) := by decide +kernel
theorem dX2_prepare_112 : decode cX2_prepare 112 = .ok (.invokevirtual 119, 3) := by decide +kernel
theorem dX2_prepare_115 : decode cX2_prepare 115 = .ok (.ifCond .eq 21, 3) := by decide +kernel
theorem dX2_prepare_118 : decode cX2_prepare 118 = .ok (.aload_n 0, 1) := by decide +kernel
theorem dX2_prepare_119 : decode cX2_prepare 119 = .ok (.getfield 27, 3) := by decide +kernel
theorem dX2_prepare_122 : decode cX2_prepare 122 = .ok (.iload_n 3, 1) := by decide +kernel
theorem dX2_prepare_123 : decode cX2_prepare 123 = .ok (.dup2, 1) := by decide +kernel
theorem dX2_prepare_124 : decode cX2_prepare 124 = .ok (.iaload, 1) := by decide +kernel
theorem dX2_prepare_125 : decode cX2_prepare 125 = .ok (.aload_n 0, 1) := by decide +kernel
theorem dX2_prepare_126 : decode cX2_prepare 126 = .ok (.getfield 46, 3) := by decide +kernel
theorem dX2_prepare_129 : decode cX2_prepare 129 = .ok (.iconst 1, 1) := by decide +kernel
theorem dX2_prepare_130 : decode cX2_prepare 130 = .ok (.iload 4, 2) := by decide +kernel
theorem dX2_prepare_132 : decode cX2_prepare 132 = .ok (.ishl, 1) := by decide +kernel
theorem dX2_prepare_133 : decode cX2_prepare 133 = .ok (.iand, 1) := by decide +kernel
theorem dX2_prepare_134 : decode cX2_prepare 134 = .ok (.ior, 1) := by decide +kernel
theorem dX2_prepare_135 : decode cX2_prepare 135 = .ok (.iastore, 1) := by decide +kernel
theorem dX2_prepare_136 : decode cX2_prepare 136 = .ok (.iinc 4 1, 3) := by decide +kernel
theorem dX2_prepare_139 : decode cX2_prepare 139 = .ok (.goto (-40), 3) := by decide +kernel
theorem dX2_prepare_142 : decode cX2_prepare 142 = .ok (.iinc 3 1, 3) := by decide +kernel
theorem dX2_prepare_145 : decode cX2_prepare 145 = .ok (.goto (-100), 3) := by decide +kernel
theorem dX2_prepare_148 : decode cX2_prepare 148 = .ok (.return_, 1) := by decide +kernel
theorem dX2_weighSets_0 : decode cX2_weighSets 0 = .ok (.iconst 0, 1) := by decide +kernel
theorem dX2_weighSets_1 : decode cX2_weighSets 1 = .ok (.istore_n 3, 1) := by decide +kernel
theorem dX2_weighSets_2 : decode cX2_weighSets 2 = .ok (.iload_n 3, 1) := by decide +kernel
theorem dX2_weighSets_3 : decode cX2_weighSets 3 = .ok (.sipush 256, 3) := by decide +kernel
theorem dX2_weighSets_6 : decode cX2_weighSets 6 = .ok (.if_icmp .ge 17, 3) := by decide +kernel
theorem dX2_weighSets_9 : decode cX2_weighSets 9 = .ok (.aload_n 0, 1) := by decide +kernel
theorem dX2_weighSets_10 : decode cX2_weighSets 10 = .ok (.getfield 21, 3) := by decide +kernel
theorem dX2_weighSets_13 : decode cX2_weighSets 13 = .ok (.iload_n 3, 1) := by decide +kernel
theorem dX2_weighSets_14 : decode cX2_weighSets 14 = .ok (.bipush 99, 2) := by decide +kernel
theorem dX2_weighSets_16 : decode cX2_weighSets 16 = .ok (.iastore, 1) := by decide +kernel
theorem dX2_weighSets_17 : decode cX2_weighSets 17 = .ok (.iinc 3 1, 3) := by decide +kernel
theorem dX2_weighSets_20 : decode cX2_weighSets 20 = .ok (.goto (-18), 3) := by decide +kernel
theorem dX2_weighSets_23 : decode cX2_weighSets 23 = .ok (.aload_n 0, 1) := by decide +kernel
theorem dX2_weighSets_24 : decode cX2_weighSets 24 = .ok (.getfield 21, 3) := by decide +kernel
theorem dX2_weighSets_27 : decode cX2_weighSets 27 = .ok (.iconst 0, 1) := by decide +kernel
theorem dX2_weighSets_28 : decode cX2_weighSets 28 = .ok (.iconst 0, 1) := by decide +kernel
theorem dX2_weighSets_29 : decode cX2_weighSets 29 = .ok (.iastore, 1) := by decide +kernel
theorem dX2_weighSets_30 : decode cX2_weighSets 30 = .ok (.iconst 0, 1) := by decide +kernel
theorem dX2_weighSets_31 : decode cX2_weighSets 31 = .ok (.istore_n 3, 1) := by decide +kernel
theorem dX2_weighSets_32 : decode cX2_weighSets 32 = .ok (.iload_n 3, 1) := by decide +kernel
theorem dX2_weighSets_33 : decode cX2_weighSets 33 = .ok (.aload_n 1, 1) := by decide +kernel
theorem dX2_weighSets_34 : decode cX2_weighSets 34 = .ok (.getfield 104, 3) := by decide +kernel
theorem dX2_weighSets_37 : decode cX2_weighSets 37 = .ok (.if_icmp .ge 135, 3) := by decide +kernel
theorem dX2_weighSets_40 : decode cX2_weighSets 40 = .ok (.aload_n 1, 1) := by decide +kernel
theorem dX2_weighSets_41 : decode cX2_weighSets 41 = .ok (.getfield 123, 3) := by decide +kernel
theorem dX2_weighSets_44 : decode cX2_weighSets 44 = .ok (.iload_n 3, 1) := by decide +kernel
theorem dX2_weighSets_45 : decode cX2_weighSets 45 = .ok (.iaload, 1) := by decide +kernel
theorem dX2_weighSets_46 : decode cX2_weighSets 46 = .ok (.istore 4, 2) := by decide +kernel
theorem dX2_weighSets_48 : decode cX2_weighSets 48 = .ok (.iload 4, 2) := by decide +kernel
theorem dX2_weighSets_50 : decode cX2_weighSets 50 = .ok (.aload_n 2, 1) := by decide +kernel
theorem dX2_weighSets_51 : decode cX2_weighSets 51 = .ok (.getfield 126, 3) := by decide +kernel
theorem dX2_weighSets_54 : decode cX2_weighSets 54 = .ok (.iload_n 3, 1) := by decide +kernel
theorem dX2_weighSets_55 : decode cX2_weighSets 55 = .ok (.iaload, 1) := by decide +kernel
theorem dX2_weighSets_56 : decode cX2_weighSets 56 = .ok (.aload_n 2, 1) := by decide +kernel
theorem dX2_weighSets_57 : decode cX2_weighSets 57 = .ok (.getfield 129, 3) := by decide +kernel
theorem dX2_weighSets_60 : decode cX2_weighSets 60 = .ok (.invokestatic 132, 3) := by decide +kernel
theorem dX2_weighSets_63 : decode cX2_weighSets 63 = .ok (.istore 5, 2) := by decide +kernel
theorem dX2_weighSets_65 : decode cX2_weighSets 65 = .ok (.iconst 1, 1) := by decide +kernel
theorem dX2_weighSets_66 : decode cX2_weighSets 66 = .ok (.iload_n 3, 1) := by decide +kernel
theorem dX2_weighSets_67 : decode cX2_weighSets 67 = .ok (.ishl, 1) := by decide +kernel
theorem dX2_weighSets_68 : decode cX2_weighSets 68 = .ok (.istore 6, 2) := by decide +kernel
theorem dX2_weighSets_70 : decode cX2_weighSets 70 = .ok (.iconst 0, 1) := by decide +kernel
theorem dX2_weighSets_71 : decode cX2_weighSets 71 = .ok (.istore 7, 2) := by decide +kernel
theorem dX2_weighSets_73 : decode cX2_weighSets 73 = .ok (.iload 7, 2) := by decide +kernel
theorem dX2_weighSets_75 : decode cX2_weighSets 75 = .ok (.iload 6, 2) := by decide +kernel
theorem dX2_weighSets_77 : decode cX2_weighSets 77 = .ok (.if_icmp .ge 89, 3) := by decide +kernel
theorem dX2_weighSets_80 : decode cX2_weighSets 80 = .ok (.iload 7, 2) := by decide +kernel
theorem dX2_weighSets_82 : decode cX2_weighSets 82 = .ok (.iload 6, 2) := by decide +kernel
theorem dX2_weighSets_84 : decode cX2_weighSets 84 = .ok (.ior, 1) := by decide +kernel
theorem dX2_weighSets_85 : decode cX2_weighSets 85 = .ok (.sipush 256, 3) := by decide +kernel
theorem dX2_weighSets_88 : decode cX2_weighSets 88 = .ok (.if_icmp .ge 78, 3) := by decide +kernel
theorem dX2_weighSets_91 : decode cX2_weighSets 91 = .ok (.aload_n 0, 1) := by decide +kernel
theorem dX2_weighSets_92 : decode cX2_weighSets 92 = .ok (.getfield 11, 3) := by decide +kernel
theorem dX2_weighSets_95 : decode cX2_weighSets 95 = .ok (.iload 7, 2) := by decide +kernel
theorem dX2_weighSets_97 : decode cX2_weighSets 97 = .ok (.iload 6, 2) := by decide +kernel
theorem dX2_weighSets_99 : decode cX2_weighSets 99 = .ok (.ior, 1) := by decide +kernel
theorem dX2_weighSets_100 : decode cX2_weighSets 100 = .ok (.aload_n 0, 1) := by decide +kernel
theorem dX2_weighSets_101 : decode cX2_weighSets 101 = .ok (.getfield 11, 3) := by decide +kernel
theorem dX2_weighSets_104 : decode cX2_weighSets 104 = .ok (.iload 7, 2) := by decide +kernel
theorem dX2_weighSets_106 : decode cX2_weighSets 106 = .ok (.iaload, 1) := by decide +kernel
theorem dX2_weighSets_107 : decode cX2_weighSets 107 = .ok (.iload 4, 2) := by decide +kernel
theorem dX2_weighSets_109 : decode cX2_weighSets 109 = .ok (.iadd, 1) := by decide +kernel
theorem dX2_weighSets_110 : decode cX2_weighSets 110 = .ok (.iload 5, 2) := by decide +kernel
theorem dX2_weighSets_112 : decode cX2_weighSets 112 = .ok (.ldc 136, 2) := by decide +kernel
theorem dX2_weighSets_114 : decode cX2_weighSets 114 = .ok (.imul, 1) := by decide +kernel
theorem dX2_weighSets_115 : decode cX2_weighSets 115 = .ok (.iadd, 1) := by decide +kernel
theorem dX2_weighSets_116 : decode cX2_weighSets 116 = .ok (.iastore, 1) := by decide +kernel
theorem dX2_weighSets_117 : decode cX2_weighSets 117 = .ok (.aload_n 0, 1) := by decide +kernel
theorem dX2_weighSets_118 : decode cX2_weighSets 118 = .ok (.getfield 15, 3) := by decide +kernel
theorem dX2_weighSets_121 : decode cX2_weighSets 121 = .ok (.iload 7, 2) := by decide +kernel
theorem dX2_weighSets_123 : decode cX2_weighSets 123 = .ok (.iload 6, 2) := by decide +kernel
theorem dX2_weighSets_125 : decode cX2_weighSets 125 = .ok (.ior, 1) := by decide +kernel
theorem dX2_weighSets_126 : decode cX2_weighSets 126 = .ok (.aload_n 0, 1) := by decide +kernel
theorem dX2_weighSets_127 : decode cX2_weighSets 127 = .ok (.getfield 15, 3) := by decide +kernel
theorem dX2_weighSets_130 : decode cX2_weighSets 130 = .ok (.iload 7, 2) := by decide +kernel
theorem dX2_weighSets_132 : decode cX2_weighSets 132 = .ok (.iaload, 1) := by decide +kernel
theorem dX2_weighSets_133 : decode cX2_weighSets 133 = .ok (.aload_n 1, 1) := by decide +kernel
theorem dX2_weighSets_134 : decode cX2_weighSets 134 = .ok (.getfield 137, 3) := by decide +kernel
theorem dX2_weighSets_137 : decode cX2_weighSets 137 = .ok (.iload_n 3, 1) := by decide +kernel
theorem dX2_weighSets_138 : decode cX2_weighSets 138 = .ok (.iaload, 1) := by decide +kernel
theorem dX2_weighSets_139 : decode cX2_weighSets 139 = .ok (.iadd, 1) := by decide +kernel
theorem dX2_weighSets_140 : decode cX2_weighSets 140 = .ok (.iastore, 1) := by decide +kernel
theorem dX2_weighSets_141 : decode cX2_weighSets 141 = .ok (.aload_n 0, 1) := by decide +kernel
theorem dX2_weighSets_142 : decode cX2_weighSets 142 = .ok (.getfield 18, 3) := by decide +kernel
theorem dX2_weighSets_145 : decode cX2_weighSets 145 = .ok (.iload 7, 2) := by decide +kernel
theorem dX2_weighSets_147 : decode cX2_weighSets 147 = .ok (.iload 6, 2) := by decide +kernel
theorem dX2_weighSets_149 : decode cX2_weighSets 149 = .ok (.ior, 1) := by decide +kernel
theorem dX2_weighSets_150 : decode cX2_weighSets 150 = .ok (.aload_n 0, 1) := by decide +kernel
theorem dX2_weighSets_151 : decode cX2_weighSets 151 = .ok (.getfield 18, 3) := by decide +kernel
theorem dX2_weighSets_154 : decode cX2_weighSets 154 = .ok (.iload 7, 2) := by decide +kernel
theorem dX2_weighSets_156 : decode cX2_weighSets 156 = .ok (.iaload, 1) := by decide +kernel
theorem dX2_weighSets_157 : decode cX2_weighSets 157 = .ok (.iconst 1, 1) := by decide +kernel
theorem dX2_weighSets_158 : decode cX2_weighSets 158 = .ok (.iadd, 1) := by decide +kernel
theorem dX2_weighSets_159 : decode cX2_weighSets 159 = .ok (.iastore, 1) := by decide +kernel
theorem dX2_weighSets_160 : decode cX2_weighSets 160 = .ok (.iinc 7 1, 3) := by decide +kernel
theorem dX2_weighSets_163 : decode cX2_weighSets 163 = .ok (.goto (-90), 3) := by decide +kernel
theorem dX2_weighSets_166 : decode cX2_weighSets 166 = .ok (.iinc 3 1, 3) := by decide +kernel
theorem dX2_weighSets_169 : decode cX2_weighSets 169 = .ok (.goto (-137), 3) := by decide +kernel
theorem dX2_weighSets_172 : decode cX2_weighSets 172 = .ok (.return_, 1) := by decide +kernel
theorem dX2_pullOf_0 : decode cX2_pullOf 0 = .ok (.aload_n 0, 1) := by decide +kernel
theorem dX2_pullOf_1 : decode cX2_pullOf 1 = .ok (.getfield 33, 3) := by decide +kernel
theorem dX2_pullOf_4 : decode cX2_pullOf 4 = .ok (.iload_n 1, 1) := by decide +kernel
theorem dX2_pullOf_5 : decode cX2_pullOf 5 = .ok (.iaload, 1) := by decide +kernel
theorem dX2_pullOf_6 : decode cX2_pullOf 6 = .ok (.aload_n 0, 1) := by decide +kernel
theorem dX2_pullOf_7 : decode cX2_pullOf 7 = .ok (.getfield 30, 3) := by decide +kernel
theorem dX2_pullOf_10 : decode cX2_pullOf 10 = .ok (.iload_n 1, 1) := by decide +kernel
theorem dX2_pullOf_11 : decode cX2_pullOf 11 = .ok (.iaload, 1) := by decide +kernel
theorem dX2_pullOf_12 : decode cX2_pullOf 12 = .ok (.aload_n 0, 1) := by decide +kernel
theorem dX2_pullOf_13 : decode cX2_pullOf 13 = .ok (.getfield 11, 3) := by decide +kernel
theorem dX2_pullOf_16 : decode cX2_pullOf 16 = .ok (.iload_n 2, 1) := by decide +kernel
theorem dX2_pullOf_17 : decode cX2_pullOf 17 = .ok (.iaload, 1) := by decide +kernel
theorem dX2_pullOf_18 : decode cX2_pullOf 18 = .ok (.imul, 1) := by decide +kernel
theorem dX2_pullOf_19 : decode cX2_pullOf 19 = .ok (.iadd, 1) := by decide +kernel
theorem dX2_pullOf_20 : decode cX2_pullOf 20 = .ok (.ireturn, 1) := by decide +kernel
theorem dX2_searchWithLast_0 : decode cX2_searchWithLast 0 = .ok (.iload_n 1, 1) := by decide +kernel
theorem dX2_searchWithLast_1 : decode cX2_searchWithLast 1 = .ok (.ifCond .ne 7, 3) := by decide +kernel
theorem dX2_searchWithLast_4 : decode cX2_searchWithLast 4 = .ok (.iconst 1, 1) := by decide +kernel
theorem dX2_searchWithLast_5 : decode cX2_searchWithLast 5 = .ok (.goto 4, 3) := by decide +kernel
theorem dX2_searchWithLast_8 : decode cX2_searchWithLast 8 = .ok (.iconst 0, 1) := by decide +kernel
theorem dX2_searchWithLast_9 : decode cX2_searchWithLast 9 = .ok (.istore_n 3, 1) := by decide +kernel
theorem dX2_searchWithLast_10 : decode cX2_searchWithLast 10 = .ok (.aload_n 0, 1) := by decide +kernel
theorem dX2_searchWithLast_11 : decode cX2_searchWithLast 11 = .ok (.getfield 27, 3) := by decide +kernel
theorem dX2_searchWithLast_14 : decode cX2_searchWithLast 14 = .ok (.iload_n 3, 1) := by decide +kernel
theorem dX2_searchWithLast_15 : decode cX2_searchWithLast 15 = .ok (.iaload, 1) := by decide +kernel
theorem dX2_searchWithLast_16 : decode cX2_searchWithLast 16 = .ok (.istore 4, 2) := by decide +kernel
theorem dX2_searchWithLast_18 : decode cX2_searchWithLast 18 = .ok (.iload 4, 2) := by decide +kernel
theorem dX2_searchWithLast_20 : decode cX2_searchWithLast 20 = .ok (.istore 5, 2) := by decide +kernel
theorem dX2_searchWithLast_22 : decode cX2_searchWithLast 22 = .ok (.iload 5, 2) := by decide +kernel
theorem dX2_searchWithLast_24 : decode cX2_searchWithLast 24 = .ok (.ifCond .lt 88, 3) := by decide +kernel
theorem dX2_searchWithLast_27 : decode cX2_searchWithLast 27 = .ok (.aload_n 0, 1) := by decide +kernel
theorem dX2_searchWithLast_28 : decode cX2_searchWithLast 28 = .ok (.getfield 18, 3) := by decide +kernel
theorem dX2_searchWithLast_31 : decode cX2_searchWithLast 31 = .ok (.iload 5, 2) := by decide +kernel
theorem dX2_searchWithLast_33 : decode cX2_searchWithLast 33 = .ok (.iaload, 1) := by decide +kernel
theorem dX2_searchWithLast_34 : decode cX2_searchWithLast 34 = .ok (.aload_n 0, 1) := by decide +kernel
theorem dX2_searchWithLast_35 : decode cX2_searchWithLast 35 = .ok (.getfield 40, 3) := by decide +kernel
theorem dX2_searchWithLast_38 : decode cX2_searchWithLast 38 = .ok (.if_icmp .gt 53, 3) := by decide +kernel
theorem dX2_searchWithLast_41 : decode cX2_searchWithLast 41 = .ok (.iload 5, 2) := by decide +kernel
theorem dX2_searchWithLast_43 : decode cX2_searchWithLast 43 = .ok (.bipush 8, 2) := by decide +kernel
theorem dX2_searchWithLast_45 : decode cX2_searchWithLast 45 = .ok (.iload_n 3, 1) := by decide +kernel
theorem dX2_searchWithLast_46 : decode cX2_searchWithLast 46 = .ok (.imul, 1) := by decide +kernel
theorem dX2_searchWithLast_47 : decode cX2_searchWithLast 47 = .ok (.ishl, 1) := by decide +kernel
theorem dX2_searchWithLast_48 : decode cX2_searchWithLast 48 = .ok (.istore 6, 2) := by decide +kernel
theorem dX2_searchWithLast_50 : decode cX2_searchWithLast 50 = .ok (.aload_n 0, 1) := by decide +kernel
theorem dX2_searchWithLast_51 : decode cX2_searchWithLast 51 = .ok (.getfield 36, 3) := by decide +kernel
theorem dX2_searchWithLast_54 : decode cX2_searchWithLast 54 = .ok (.iconst 2, 1) := by decide +kernel
theorem dX2_searchWithLast_55 : decode cX2_searchWithLast 55 = .ok (.if_icmp .ne 21, 3) := by decide +kernel
theorem dX2_searchWithLast_58 : decode cX2_searchWithLast 58 = .ok (.aload_n 0, 1) := by decide +kernel
theorem dX2_searchWithLast_59 : decode cX2_searchWithLast 59 = .ok (.iload_n 1, 1) := by decide +kernel
theorem dX2_searchWithLast_60 : decode cX2_searchWithLast 60 = .ok (.iload 6, 2) := by decide +kernel
theorem dX2_searchWithLast_62 : decode cX2_searchWithLast 62 = .ok (.aload_n 0, 1) := by decide +kernel
theorem dX2_searchWithLast_63 : decode cX2_searchWithLast 63 = .ok (.iload_n 3, 1) := by decide +kernel
theorem dX2_searchWithLast_64 : decode cX2_searchWithLast 64 = .ok (.iload 5, 2) := by decide +kernel
theorem dX2_searchWithLast_66 : decode cX2_searchWithLast 66 = .ok (.invokevirtual 140, 3) := by decide +kernel
theorem dX2_searchWithLast_69 : decode cX2_searchWithLast 69 = .ok (.iload_n 2, 1) := by decide +kernel
theorem dX2_searchWithLast_70 : decode cX2_searchWithLast 70 = .ok (.invokevirtual 143, 3) := by decide +kernel
theorem dX2_searchWithLast_73 : decode cX2_searchWithLast 73 = .ok (.goto 18, 3) := by decide +kernel
theorem dX2_searchWithLast_76 : decode cX2_searchWithLast 76 = .ok (.aload_n 0, 1) := by decide +kernel
theorem dX2_searchWithLast_77 : decode cX2_searchWithLast 77 = .ok (.iload_n 1, 1) := by decide +kernel
theorem dX2_searchWithLast_78 : decode cX2_searchWithLast 78 = .ok (.iload 6, 2) := by decide +kernel
theorem dX2_searchWithLast_80 : decode cX2_searchWithLast 80 = .ok (.aload_n 0, 1) := by decide +kernel
theorem dX2_searchWithLast_81 : decode cX2_searchWithLast 81 = .ok (.iload_n 3, 1) := by decide +kernel
theorem dX2_searchWithLast_82 : decode cX2_searchWithLast 82 = .ok (.iload 5, 2) := by decide +kernel
theorem dX2_searchWithLast_84 : decode cX2_searchWithLast 84 = .ok (.invokevirtual 140, 3) := by decide +kernel
theorem dX2_searchWithLast_87 : decode cX2_searchWithLast 87 = .ok (.iload_n 2, 1) := by decide +kernel
theorem dX2_searchWithLast_88 : decode cX2_searchWithLast 88 = .ok (.invokevirtual 147, 3) := by decide +kernel
theorem dX2_searchWithLast_91 : decode cX2_searchWithLast 91 = .ok (.iload 5, 2) := by decide +kernel
theorem dX2_searchWithLast_93 : decode cX2_searchWithLast 93 = .ok (.ifCond .ne 7, 3) := by decide +kernel
theorem dX2_searchWithLast_96 : decode cX2_searchWithLast 96 = .ok (.iconst (-1), 1) := by decide +kernel
theorem dX2_searchWithLast_97 : decode cX2_searchWithLast 97 = .ok (.goto 10, 3) := by decide +kernel
theorem dX2_searchWithLast_100 : decode cX2_searchWithLast 100 = .ok (.iload 5, 2) := by decide +kernel
theorem dX2_searchWithLast_102 : decode cX2_searchWithLast 102 = .ok (.iconst 1, 1) := by decide +kernel
theorem dX2_searchWithLast_103 : decode cX2_searchWithLast 103 = .ok (.isub, 1) := by decide +kernel
theorem dX2_searchWithLast_104 : decode cX2_searchWithLast 104 = .ok (.iload 4, 2) := by decide +kernel
theorem dX2_searchWithLast_106 : decode cX2_searchWithLast 106 = .ok (.iand, 1) := by decide +kernel
theorem dX2_searchWithLast_107 : decode cX2_searchWithLast 107 = .ok (.istore 5, 2) := by decide +kernel
theorem dX2_searchWithLast_109 : decode cX2_searchWithLast 109 = .ok (.goto (-87), 3) := by decide +kernel
theorem dX2_searchWithLast_112 : decode cX2_searchWithLast 112 = .ok (.return_, 1) := by decide +kernel
theorem dX2_trySecond_0 : decode cX2_trySecond 0 = .ok (.iload_n 1, 1) := by decide +kernel
theorem dX2_trySecond_1 : decode cX2_trySecond 1 = .ok (.iconst 2, 1) := by decide +kernel
theorem dX2_trySecond_2 : decode cX2_trySecond 2 = .ok (.if_icmp .ne 7, 3) := by decide +kernel
theorem dX2_trySecond_5 : decode cX2_trySecond 5 = .ok (.iconst 1, 1) := by decide +kernel
theorem dX2_trySecond_6 : decode cX2_trySecond 6 = .ok (.goto 4, 3) := by decide +kernel
theorem dX2_trySecond_9 : decode cX2_trySecond 9 = .ok (.iconst 2, 1) := by decide +kernel
theorem dX2_trySecond_10 : decode cX2_trySecond 10 = .ok (.istore 5, 2) := by decide +kernel
theorem dX2_trySecond_12 : decode cX2_trySecond 12 = .ok (.aload_n 0, 1) := by decide +kernel
theorem dX2_trySecond_13 : decode cX2_trySecond 13 = .ok (.getfield 27, 3) := by decide +kernel
theorem dX2_trySecond_16 : decode cX2_trySecond 16 = .ok (.iload 5, 2) := by decide +kernel
theorem dX2_trySecond_18 : decode cX2_trySecond 18 = .ok (.iaload, 1) := by decide +kernel
theorem dX2_trySecond_19 : decode cX2_trySecond 19 = .ok (.iload_n 2, 1) := by decide +kernel
theorem dX2_trySecond_20 : decode cX2_trySecond 20 = .ok (.invokestatic 150, 3) := by decide +kernel
theorem dX2_trySecond_23 : decode cX2_trySecond 23 = .ok (.iconst (-1), 1) := by decide +kernel
theorem dX2_trySecond_24 : decode cX2_trySecond 24 = .ok (.ixor, 1) := by decide +kernel
theorem dX2_trySecond_25 : decode cX2_trySecond 25 = .ok (.iand, 1) := by decide +kernel
theorem dX2_trySecond_26 : decode cX2_trySecond 26 = .ok (.istore 6, 2) := by decide +kernel
theorem dX2_trySecond_28 : decode cX2_trySecond 28 = .ok (.iload 6, 2) := by decide +kernel
theorem dX2_trySecond_30 : decode cX2_trySecond 30 = .ok (.istore 7, 2) := by decide +kernel
theorem dX2_trySecond_32 : decode cX2_trySecond 32 = .ok (.iload 7, 2) := by decide +kernel
theorem dX2_trySecond_34 : decode cX2_trySecond 34 = .ok (.ifCond .lt 68, 3) := by decide +kernel
theorem dX2_trySecond_37 : decode cX2_trySecond 37 = .ok (.aload_n 0, 1) := by decide +kernel
theorem dX2_trySecond_38 : decode cX2_trySecond 38 = .ok (.getfield 18, 3) := by decide +kernel
theorem dX2_trySecond_41 : decode cX2_trySecond 41 = .ok (.iload 7, 2) := by decide +kernel
theorem dX2_trySecond_43 : decode cX2_trySecond 43 = .ok (.iaload, 1) := by decide +kernel
theorem dX2_trySecond_44 : decode cX2_trySecond 44 = .ok (.aload_n 0, 1) := by decide +kernel
theorem dX2_trySecond_45 : decode cX2_trySecond 45 = .ok (.getfield 40, 3) := by decide +kernel
theorem dX2_trySecond_48 : decode cX2_trySecond 48 = .ok (.if_icmp .gt 33, 3) := by decide +kernel
theorem dX2_trySecond_51 : decode cX2_trySecond 51 = .ok (.aload_n 0, 1) := by decide +kernel
theorem dX2_trySecond_52 : decode cX2_trySecond 52 = .ok (.iload 5, 2) := by decide +kernel
theorem dX2_trySecond_54 : decode cX2_trySecond 54 = .ok (.iload 7, 2) := by decide +kernel
theorem dX2_trySecond_56 : decode cX2_trySecond 56 = .ok (.invokevirtual 140, 3) := by decide +kernel
theorem dX2_trySecond_59 : decode cX2_trySecond 59 = .ok (.iload_n 3, 1) := by decide +kernel
theorem dX2_trySecond_60 : decode cX2_trySecond 60 = .ok (.if_icmp .ne 21, 3) := by decide +kernel
theorem dX2_trySecond_63 : decode cX2_trySecond 63 = .ok (.aload_n 0, 1) := by decide +kernel
theorem dX2_trySecond_64 : decode cX2_trySecond 64 = .ok (.iload_n 1, 1) := by decide +kernel
theorem dX2_trySecond_65 : decode cX2_trySecond 65 = .ok (.iload_n 2, 1) := by decide +kernel
theorem dX2_trySecond_66 : decode cX2_trySecond 66 = .ok (.iload 7, 2) := by decide +kernel
theorem dX2_trySecond_68 : decode cX2_trySecond 68 = .ok (.bipush 8, 2) := by decide +kernel
theorem dX2_trySecond_70 : decode cX2_trySecond 70 = .ok (.iload 5, 2) := by decide +kernel
theorem dX2_trySecond_72 : decode cX2_trySecond 72 = .ok (.imul, 1) := by decide +kernel
theorem dX2_trySecond_73 : decode cX2_trySecond 73 = .ok (.ishl, 1) := by decide +kernel
theorem dX2_trySecond_74 : decode cX2_trySecond 74 = .ok (.ior, 1) := by decide +kernel
theorem dX2_trySecond_75 : decode cX2_trySecond 75 = .ok (.iload_n 3, 1) := by decide +kernel
theorem dX2_trySecond_76 : decode cX2_trySecond 76 = .ok (.iload 4, 2) := by decide +kernel
theorem dX2_trySecond_78 : decode cX2_trySecond 78 = .ok (.invokevirtual 143, 3) := by decide +kernel
theorem dX2_trySecond_81 : decode cX2_trySecond 81 = .ok (.iload 7, 2) := by decide +kernel
theorem dX2_trySecond_83 : decode cX2_trySecond 83 = .ok (.ifCond .ne 7, 3) := by decide +kernel
theorem dX2_trySecond_86 : decode cX2_trySecond 86 = .ok (.iconst (-1), 1) := by decide +kernel
theorem dX2_trySecond_87 : decode cX2_trySecond 87 = .ok (.goto 10, 3) := by decide +kernel
theorem dX2_trySecond_90 : decode cX2_trySecond 90 = .ok (.iload 7, 2) := by decide +kernel
theorem dX2_trySecond_92 : decode cX2_trySecond 92 = .ok (.iconst 1, 1) := by decide +kernel
theorem dX2_trySecond_93 : decode cX2_trySecond 93 = .ok (.isub, 1) := by decide +kernel
theorem dX2_trySecond_94 : decode cX2_trySecond 94 = .ok (.iload 6, 2) := by decide +kernel
theorem dX2_trySecond_96 : decode cX2_trySecond 96 = .ok (.iand, 1) := by decide +kernel
theorem dX2_trySecond_97 : decode cX2_trySecond 97 = .ok (.istore 7, 2) := by decide +kernel
theorem dX2_trySecond_99 : decode cX2_trySecond 99 = .ok (.goto (-67), 3) := by decide +kernel
theorem dX2_trySecond_102 : decode cX2_trySecond 102 = .ok (.return_, 1) := by decide +kernel
theorem dX2_tryLast_0 : decode cX2_tryLast 0 = .ok (.iload_n 2, 1) := by decide +kernel
theorem dX2_tryLast_1 : decode cX2_tryLast 1 = .ok (.invokestatic 150, 3) := by decide +kernel
theorem dX2_tryLast_4 : decode cX2_tryLast 4 = .ok (.istore 5, 2) := by decide +kernel
theorem dX2_tryLast_6 : decode cX2_tryLast 6 = .ok (.aload_n 0, 1) := by decide +kernel
theorem dX2_tryLast_7 : decode cX2_tryLast 7 = .ok (.getfield 27, 3) := by decide +kernel
theorem dX2_tryLast_10 : decode cX2_tryLast 10 = .ok (.iload_n 1, 1) := by decide +kernel
theorem dX2_tryLast_11 : decode cX2_tryLast 11 = .ok (.iaload, 1) := by decide +kernel
theorem dX2_tryLast_12 : decode cX2_tryLast 12 = .ok (.iload 5, 2) := by decide +kernel
theorem dX2_tryLast_14 : decode cX2_tryLast 14 = .ok (.iconst (-1), 1) := by decide +kernel
theorem dX2_tryLast_15 : decode cX2_tryLast 15 = .ok (.ixor, 1) := by decide +kernel
theorem dX2_tryLast_16 : decode cX2_tryLast 16 = .ok (.iand, 1) := by decide +kernel
theorem dX2_tryLast_17 : decode cX2_tryLast 17 = .ok (.istore 6, 2) := by decide +kernel
theorem dX2_tryLast_19 : decode cX2_tryLast 19 = .ok (.iload 6, 2) := by decide +kernel
theorem dX2_tryLast_21 : decode cX2_tryLast 21 = .ok (.istore 7, 2) := by decide +kernel
theorem dX2_tryLast_23 : decode cX2_tryLast 23 = .ok (.iload 7, 2) := by decide +kernel
theorem dX2_tryLast_25 : decode cX2_tryLast 25 = .ok (.ifCond .lt 116, 3) := by decide +kernel
theorem dX2_tryLast_28 : decode cX2_tryLast 28 = .ok (.iload_n 3, 1) := by decide +kernel
theorem dX2_tryLast_29 : decode cX2_tryLast 29 = .ok (.aload_n 0, 1) := by decide +kernel
theorem dX2_tryLast_30 : decode cX2_tryLast 30 = .ok (.iload_n 1, 1) := by decide +kernel
theorem dX2_tryLast_31 : decode cX2_tryLast 31 = .ok (.iload 7, 2) := by decide +kernel
theorem dX2_tryLast_33 : decode cX2_tryLast 33 = .ok (.invokevirtual 140, 3) := by decide +kernel
theorem dX2_tryLast_36 : decode cX2_tryLast 36 = .ok (.isub, 1) := by decide +kernel
theorem dX2_tryLast_37 : decode cX2_tryLast 37 = .ok (.istore 8, 2) := by decide +kernel
theorem dX2_tryLast_39 : decode cX2_tryLast 39 = .ok (.iload 4, 2) := by decide +kernel
theorem dX2_tryLast_41 : decode cX2_tryLast 41 = .ok (.ifCond .eq 42, 3) := by decide +kernel
theorem dX2_tryLast_44 : decode cX2_tryLast 44 = .ok (.iload 8, 2) := by decide +kernel
theorem dX2_tryLast_46 : decode cX2_tryLast 46 = .ok (.ifCond .le 74, 3) := by decide +kernel
theorem dX2_tryLast_49 : decode cX2_tryLast 49 = .ok (.aload_n 0, 1) := by decide +kernel
theorem dX2_tryLast_50 : decode cX2_tryLast 50 = .ok (.getfield 18, 3) := by decide +kernel
theorem dX2_tryLast_53 : decode cX2_tryLast 53 = .ok (.iload 7, 2) := by decide +kernel
theorem dX2_tryLast_55 : decode cX2_tryLast 55 = .ok (.iaload, 1) := by decide +kernel
theorem dX2_tryLast_56 : decode cX2_tryLast 56 = .ok (.aload_n 0, 1) := by decide +kernel
theorem dX2_tryLast_57 : decode cX2_tryLast 57 = .ok (.getfield 40, 3) := by decide +kernel
theorem dX2_tryLast_60 : decode cX2_tryLast 60 = .ok (.if_icmp .ge 60, 3) := by decide +kernel
theorem dX2_tryLast_63 : decode cX2_tryLast 63 = .ok (.aload_n 0, 1) := by decide +kernel
theorem dX2_tryLast_64 : decode cX2_tryLast 64 = .ok (.iload 5, 2) := by decide +kernel
theorem dX2_tryLast_66 : decode cX2_tryLast 66 = .ok (.iload 7, 2) := by decide +kernel
theorem dX2_tryLast_68 : decode cX2_tryLast 68 = .ok (.ior, 1) := by decide +kernel
theorem dX2_tryLast_69 : decode cX2_tryLast 69 = .ok (.iload 8, 2) := by decide +kernel
theorem dX2_tryLast_71 : decode cX2_tryLast 71 = .ok (.aload_n 0, 1) := by decide +kernel
theorem dX2_tryLast_72 : decode cX2_tryLast 72 = .ok (.getfield 30, 3) := by decide +kernel
theorem dX2_tryLast_75 : decode cX2_tryLast 75 = .ok (.iload_n 1, 1) := by decide +kernel
theorem dX2_tryLast_76 : decode cX2_tryLast 76 = .ok (.iaload, 1) := by decide +kernel
theorem dX2_tryLast_77 : decode cX2_tryLast 77 = .ok (.invokevirtual 153, 3) := by decide +kernel
theorem dX2_tryLast_80 : decode cX2_tryLast 80 = .ok (.goto 40, 3) := by decide +kernel
theorem dX2_tryLast_83 : decode cX2_tryLast 83 = .ok (.iload 8, 2) := by decide +kernel
theorem dX2_tryLast_85 : decode cX2_tryLast 85 = .ok (.ifCond .ne 35, 3) := by decide +kernel
theorem dX2_tryLast_88 : decode cX2_tryLast 88 = .ok (.aload_n 0, 1) := by decide +kernel
theorem dX2_tryLast_89 : decode cX2_tryLast 89 = .ok (.getfield 18, 3) := by decide +kernel
theorem dX2_tryLast_92 : decode cX2_tryLast 92 = .ok (.iload 7, 2) := by decide +kernel
theorem dX2_tryLast_94 : decode cX2_tryLast 94 = .ok (.iaload, 1) := by decide +kernel
theorem dX2_tryLast_95 : decode cX2_tryLast 95 = .ok (.aload_n 0, 1) := by decide +kernel
theorem dX2_tryLast_96 : decode cX2_tryLast 96 = .ok (.getfield 40, 3) := by decide +kernel
theorem dX2_tryLast_99 : decode cX2_tryLast 99 = .ok (.if_icmp .gt 21, 3) := by decide +kernel
theorem dX2_tryLast_102 : decode cX2_tryLast 102 = .ok (.aload_n 0, 1) := by decide +kernel
theorem dX2_tryLast_103 : decode cX2_tryLast 103 = .ok (.iload 5, 2) := by decide +kernel
theorem dX2_tryLast_105 : decode cX2_tryLast 105 = .ok (.iload 7, 2) := by decide +kernel
theorem dX2_tryLast_107 : decode cX2_tryLast 107 = .ok (.ior, 1) := by decide +kernel
theorem dX2_tryLast_108 : decode cX2_tryLast 108 = .ok (.iload_n 2, 1) := by decide +kernel
theorem dX2_tryLast_109 : decode cX2_tryLast 109 = .ok (.iload 7, 2) := by decide +kernel
theorem dX2_tryLast_111 : decode cX2_tryLast 111 = .ok (.bipush 8, 2) := by decide +kernel
theorem dX2_tryLast_113 : decode cX2_tryLast 113 = .ok (.iload_n 1, 1) := by decide +kernel
theorem dX2_tryLast_114 : decode cX2_tryLast 114 = .ok (.imul, 1) := by decide +kernel
theorem dX2_tryLast_115 : decode cX2_tryLast 115 = .ok (.ishl, 1) := by decide +kernel
theorem dX2_tryLast_116 : decode cX2_tryLast 116 = .ok (.ior, 1) := by decide +kernel
theorem dX2_tryLast_117 : decode cX2_tryLast 117 = .ok (.invokevirtual 157, 3) := by decide +kernel
theorem dX2_tryLast_120 : decode cX2_tryLast 120 = .ok (.iload 7, 2) := by decide +kernel
theorem dX2_tryLast_122 : decode cX2_tryLast 122 = .ok (.ifCond .ne 7, 3) := by decide +kernel
theorem dX2_tryLast_125 : decode cX2_tryLast 125 = .ok (.iconst (-1), 1) := by decide +kernel
theorem dX2_tryLast_126 : decode cX2_tryLast 126 = .ok (.goto 10, 3) := by decide +kernel
theorem dX2_tryLast_129 : decode cX2_tryLast 129 = .ok (.iload 7, 2) := by decide +kernel
theorem dX2_tryLast_131 : decode cX2_tryLast 131 = .ok (.iconst 1, 1) := by decide +kernel
theorem dX2_tryLast_132 : decode cX2_tryLast 132 = .ok (.isub, 1) := by decide +kernel
theorem dX2_tryLast_133 : decode cX2_tryLast 133 = .ok (.iload 6, 2) := by decide +kernel
theorem dX2_tryLast_135 : decode cX2_tryLast 135 = .ok (.iand, 1) := by decide +kernel
theorem dX2_tryLast_136 : decode cX2_tryLast 136 = .ok (.istore 7, 2) := by decide +kernel
theorem dX2_tryLast_138 : decode cX2_tryLast 138 = .ok (.goto (-115), 3) := by decide +kernel
theorem dX2_tryLast_141 : decode cX2_tryLast 141 = .ok (.return_, 1) := by decide +kernel
theorem dX2_noteMakeWeight_0 : decode cX2_noteMakeWeight 0 = .ok (.iload_n 2, 1) := by decide +kernel
theorem dX2_noteMakeWeight_1 : decode cX2_noteMakeWeight 1 = .ok (.ldc 161, 2) := by decide +kernel
theorem dX2_noteMakeWeight_3 : decode cX2_noteMakeWeight 3 = .ok (.iand, 1) := by decide +kernel
theorem dX2_noteMakeWeight_4 : decode cX2_noteMakeWeight 4 = .ok (.istore 4, 2) := by decide +kernel
theorem dX2_noteMakeWeight_6 : decode cX2_noteMakeWeight 6 = .ok (.aload_n 0, 1) := by decide +kernel
theorem dX2_noteMakeWeight_7 : decode cX2_noteMakeWeight 7 = .ok (.getfield 15, 3) := by decide +kernel
theorem dX2_noteMakeWeight_10 : decode cX2_noteMakeWeight 10 = .ok (.iload_n 1, 1) := by decide +kernel
theorem dX2_noteMakeWeight_11 : decode cX2_noteMakeWeight 11 = .ok (.iaload, 1) := by decide +kernel
theorem dX2_noteMakeWeight_12 : decode cX2_noteMakeWeight 12 = .ok (.aload_n 0, 1) := by decide +kernel
theorem dX2_noteMakeWeight_13 : decode cX2_noteMakeWeight 13 = .ok (.getfield 24, 3) := by decide +kernel
theorem dX2_noteMakeWeight_16 : decode cX2_noteMakeWeight 16 = .ok (.iconst 0, 1) := by decide +kernel
theorem dX2_noteMakeWeight_17 : decode cX2_noteMakeWeight 17 = .ok (.iaload, 1) := by decide +kernel
theorem dX2_noteMakeWeight_18 : decode cX2_noteMakeWeight 18 = .ok (.if_icmp .le 24, 3) := by decide +kernel
theorem dX2_noteMakeWeight_21 : decode cX2_noteMakeWeight 21 = .ok (.iload_n 3, 1) := by decide +kernel
theorem dX2_noteMakeWeight_22 : decode cX2_noteMakeWeight 22 = .ok (.iconst 1, 1) := by decide +kernel
theorem dX2_noteMakeWeight_23 : decode cX2_noteMakeWeight 23 = .ok (.if_icmp .lt 19, 3) := by decide +kernel
theorem dX2_noteMakeWeight_26 : decode cX2_noteMakeWeight 26 = .ok (.iload 4, 2) := by decide +kernel
theorem dX2_noteMakeWeight_28 : decode cX2_noteMakeWeight 28 = .ok (.ldc 118, 2) := by decide +kernel
theorem dX2_noteMakeWeight_30 : decode cX2_noteMakeWeight 30 = .ok (.imul, 1) := by decide +kernel
theorem dX2_noteMakeWeight_31 : decode cX2_noteMakeWeight 31 = .ok (.iload_n 2, 1) := by decide +kernel
theorem dX2_noteMakeWeight_32 : decode cX2_noteMakeWeight 32 = .ok (.if_icmp .ne 10, 3) := by decide +kernel
theorem dX2_noteMakeWeight_35 : decode cX2_noteMakeWeight 35 = .ok (.iload 4, 2) := by decide +kernel
theorem dX2_noteMakeWeight_37 : decode cX2_noteMakeWeight 37 = .ok (.iload_n 3, 1) := by decide +kernel
theorem dX2_noteMakeWeight_38 : decode cX2_noteMakeWeight 38 = .ok (.irem, 1) := by decide +kernel
theorem dX2_noteMakeWeight_39 : decode cX2_noteMakeWeight 39 = .ok (.ifCond .eq 4, 3) := by decide +kernel
theorem dX2_noteMakeWeight_42 : decode cX2_noteMakeWeight 42 = .ok (.return_, 1) := by decide +kernel
theorem dX2_noteMakeWeight_43 : decode cX2_noteMakeWeight 43 = .ok (.iload 4, 2) := by decide +kernel
theorem dX2_noteMakeWeight_45 : decode cX2_noteMakeWeight 45 = .ok (.iload_n 3, 1) := by decide +kernel
theorem dX2_noteMakeWeight_46 : decode cX2_noteMakeWeight 46 = .ok (.idiv, 1) := by decide +kernel
theorem dX2_noteMakeWeight_47 : decode cX2_noteMakeWeight 47 = .ok (.istore 5, 2) := by decide +kernel
theorem dX2_noteMakeWeight_49 : decode cX2_noteMakeWeight 49 = .ok (.iload 5, 2) := by decide +kernel
theorem dX2_noteMakeWeight_51 : decode cX2_noteMakeWeight 51 = .ok (.iconst 1, 1) := by decide +kernel
theorem dX2_noteMakeWeight_52 : decode cX2_noteMakeWeight 52 = .ok (.if_icmp .lt 33, 3) := by decide +kernel
theorem dX2_noteMakeWeight_55 : decode cX2_noteMakeWeight 55 = .ok (.iload 5, 2) := by decide +kernel
theorem dX2_noteMakeWeight_57 : decode cX2_noteMakeWeight 57 = .ok (.bipush 99, 2) := by decide +kernel
theorem dX2_noteMakeWeight_59 : decode cX2_noteMakeWeight 59 = .ok (.if_icmp .gt 26, 3) := by decide +kernel
theorem dX2_noteMakeWeight_62 : decode cX2_noteMakeWeight 62 = .ok (.aload_n 0, 1) := by decide +kernel
theorem dX2_noteMakeWeight_63 : decode cX2_noteMakeWeight 63 = .ok (.getfield 24, 3) := by decide +kernel
theorem dX2_noteMakeWeight_66 : decode cX2_noteMakeWeight 66 = .ok (.iload 5, 2) := by decide +kernel
theorem dX2_noteMakeWeight_68 : decode cX2_noteMakeWeight 68 = .ok (.aload_n 0, 1) := by decide +kernel
theorem dX2_noteMakeWeight_69 : decode cX2_noteMakeWeight 69 = .ok (.getfield 24, 3) := by decide +kernel
theorem dX2_noteMakeWeight_72 : decode cX2_noteMakeWeight 72 = .ok (.iload 5, 2) := by decide +kernel
theorem dX2_noteMakeWeight_74 : decode cX2_noteMakeWeight 74 = .ok (.iaload, 1) := by decide +kernel
theorem dX2_noteMakeWeight_75 : decode cX2_noteMakeWeight 75 = .ok (.aload_n 0, 1) := by decide +kernel
theorem dX2_noteMakeWeight_76 : decode cX2_noteMakeWeight 76 = .ok (.getfield 15, 3) := by decide +kernel
theorem dX2_noteMakeWeight_79 : decode cX2_noteMakeWeight 79 = .ok (.iload_n 1, 1) := by decide +kernel
theorem dX2_noteMakeWeight_80 : decode cX2_noteMakeWeight 80 = .ok (.iaload, 1) := by decide +kernel
theorem dX2_noteMakeWeight_81 : decode cX2_noteMakeWeight 81 = .ok (.invokestatic 69, 3) := by decide +kernel
theorem dX2_noteMakeWeight_84 : decode cX2_noteMakeWeight 84 = .ok (.iastore, 1) := by decide +kernel
theorem dX2_noteMakeWeight_85 : decode cX2_noteMakeWeight 85 = .ok (.return_, 1) := by decide +kernel
theorem dX2_noteChoice_0 : decode cX2_noteChoice 0 = .ok (.iload_n 1, 1) := by decide +kernel
theorem dX2_noteChoice_1 : decode cX2_noteChoice 1 = .ok (.ifCond .ne 4, 3) := by decide +kernel
theorem dX2_noteChoice_4 : decode cX2_noteChoice 4 = .ok (.return_, 1) := by decide +kernel
theorem dX2_noteChoice_5 : decode cX2_noteChoice 5 = .ok (.aload_n 0, 1) := by decide +kernel
theorem dX2_noteChoice_6 : decode cX2_noteChoice 6 = .ok (.getfield 21, 3) := by decide +kernel
theorem dX2_noteChoice_9 : decode cX2_noteChoice 9 = .ok (.iload_n 1, 1) := by decide +kernel
theorem dX2_noteChoice_10 : decode cX2_noteChoice 10 = .ok (.iconst 1, 1) := by decide +kernel
theorem dX2_noteChoice_11 : decode cX2_noteChoice 11 = .ok (.iastore, 1) := by decide +kernel
theorem dX2_noteChoice_12 : decode cX2_noteChoice 12 = .ok (.aload_n 0, 1) := by decide +kernel
theorem dX2_noteChoice_13 : decode cX2_noteChoice 13 = .ok (.getfield 15, 3) := by decide +kernel
theorem dX2_noteChoice_16 : decode cX2_noteChoice 16 = .ok (.iload_n 1, 1) := by decide +kernel
theorem dX2_noteChoice_17 : decode cX2_noteChoice 17 = .ok (.iaload, 1) := by decide +kernel
theorem dX2_noteChoice_18 : decode cX2_noteChoice 18 = .ok (.bipush 16, 2) := by decide +kernel
theorem dX2_noteChoice_20 : decode cX2_noteChoice 20 = .ok (.imul, 1) := by decide +kernel
theorem dX2_noteChoice_21 : decode cX2_noteChoice 21 = .ok (.aload_n 0, 1) := by decide +kernel
theorem dX2_noteChoice_22 : decode cX2_noteChoice 22 = .ok (.getfield 18, 3) := by decide +kernel
theorem dX2_noteChoice_25 : decode cX2_noteChoice 25 = .ok (.iload_n 1, 1) := by decide +kernel
theorem dX2_noteChoice_26 : decode cX2_noteChoice 26 = .ok (.iaload, 1) := by decide +kernel
theorem dX2_noteChoice_27 : decode cX2_noteChoice 27 = .ok (.iadd, 1) := by decide +kernel
theorem dX2_noteChoice_28 : decode cX2_noteChoice 28 = .ok (.istore_n 3, 1) := by decide +kernel
theorem dX2_noteChoice_29 : decode cX2_noteChoice 29 = .ok (.iload_n 3, 1) := by decide +kernel
theorem dX2_noteChoice_30 : decode cX2_noteChoice 30 = .ok (.aload_n 0, 1) := by decide +kernel
theorem dX2_noteChoice_31 : decode cX2_noteChoice 31 = .ok (.getfield 49, 3) := by decide +kernel
theorem dX2_noteChoice_34 : decode cX2_noteChoice 34 = .ok (.if_icmp .gt 22, 3) := by decide +kernel
theorem dX2_noteChoice_37 : decode cX2_noteChoice 37 = .ok (.iload_n 3, 1) := by decide +kernel
theorem dX2_noteChoice_38 : decode cX2_noteChoice 38 = .ok (.aload_n 0, 1) := by decide +kernel
theorem dX2_noteChoice_39 : decode cX2_noteChoice 39 = .ok (.getfield 49, 3) := by decide +kernel
theorem dX2_noteChoice_42 : decode cX2_noteChoice 42 = .ok (.if_icmp .ne 24, 3) := by decide +kernel
theorem dX2_noteChoice_45 : decode cX2_noteChoice 45 = .ok (.iload_n 2, 1) := by decide +kernel
theorem dX2_noteChoice_46 : decode cX2_noteChoice 46 = .ok (.aload_n 0, 1) := by decide +kernel
theorem dX2_noteChoice_47 : decode cX2_noteChoice 47 = .ok (.getfield 52, 3) := by decide +kernel
theorem dX2_noteChoice_50 : decode cX2_noteChoice 50 = .ok (.invokestatic 162, 3) := by decide +kernel
theorem dX2_noteChoice_53 : decode cX2_noteChoice 53 = .ok (.ifCond .eq 13, 3) := by decide +kernel
theorem dX2_noteChoice_56 : decode cX2_noteChoice 56 = .ok (.aload_n 0, 1) := by decide +kernel
theorem dX2_noteChoice_57 : decode cX2_noteChoice 57 = .ok (.iload_n 3, 1) := by decide +kernel
theorem dX2_noteChoice_58 : decode cX2_noteChoice 58 = .ok (.putfield 49, 3) := by decide +kernel
theorem dX2_noteChoice_61 : decode cX2_noteChoice 61 = .ok (.aload_n 0, 1) := by decide +kernel
theorem dX2_noteChoice_62 : decode cX2_noteChoice 62 = .ok (.iload_n 2, 1) := by decide +kernel
theorem dX2_noteChoice_63 : decode cX2_noteChoice 63 = .ok (.putfield 52, 3) := by decide +kernel
theorem dX2_noteChoice_66 : decode cX2_noteChoice 66 = .ok (.return_, 1) := by decide +kernel
theorem dX2_isAhead_0 : decode cX2_isAhead 0 = .ok (.iload_n 0, 1) := by decide +kernel
theorem dX2_isAhead_1 : decode cX2_isAhead 1 = .ok (.iload_n 1, 1) := by decide +kernel
theorem dX2_isAhead_2 : decode cX2_isAhead 2 = .ok (.ixor, 1) := by decide +kernel
theorem dX2_isAhead_3 : decode cX2_isAhead 3 = .ok (.istore_n 2, 1) := by decide +kernel
theorem dX2_isAhead_4 : decode cX2_isAhead 4 = .ok (.iload_n 2, 1) := by decide +kernel
theorem dX2_isAhead_5 : decode cX2_isAhead 5 = .ok (.iload_n 2, 1) := by decide +kernel
theorem dX2_isAhead_6 : decode cX2_isAhead 6 = .ok (.bipush 8, 2) := by decide +kernel
theorem dX2_isAhead_8 : decode cX2_isAhead 8 = .ok (.iushr, 1) := by decide +kernel
theorem dX2_isAhead_9 : decode cX2_isAhead 9 = .ok (.ior, 1) := by decide +kernel
theorem dX2_isAhead_10 : decode cX2_isAhead 10 = .ok (.iload_n 2, 1) := by decide +kernel
theorem dX2_isAhead_11 : decode cX2_isAhead 11 = .ok (.bipush 16, 2) := by decide +kernel
theorem dX2_isAhead_13 : decode cX2_isAhead 13 = .ok (.iushr, 1) := by decide +kernel
theorem dX2_isAhead_14 : decode cX2_isAhead 14 = .ok (.ior, 1) := by decide +kernel
theorem dX2_isAhead_15 : decode cX2_isAhead 15 = .ok (.istore_n 3, 1) := by decide +kernel
theorem dX2_isAhead_16 : decode cX2_isAhead 16 = .ok (.iload_n 3, 1) := by decide +kernel
theorem dX2_isAhead_17 : decode cX2_isAhead 17 = .ok (.iload_n 3, 1) := by decide +kernel
theorem dX2_isAhead_18 : decode cX2_isAhead 18 = .ok (.ineg, 1) := by decide +kernel
theorem dX2_isAhead_19 : decode cX2_isAhead 19 = .ok (.iand, 1) := by decide +kernel
theorem dX2_isAhead_20 : decode cX2_isAhead 20 = .ok (.ldc 165, 2) := by decide +kernel
theorem dX2_isAhead_22 : decode cX2_isAhead 22 = .ok (.imul, 1) := by decide +kernel
theorem dX2_isAhead_23 : decode cX2_isAhead 23 = .ok (.istore 4, 2) := by decide +kernel
theorem dX2_isAhead_25 : decode cX2_isAhead 25 = .ok (.iload_n 0, 1) := by decide +kernel
theorem dX2_isAhead_26 : decode cX2_isAhead 26 = .ok (.iload 4, 2) := by decide +kernel
theorem dX2_isAhead_28 : decode cX2_isAhead 28 = .ok (.iand, 1) := by decide +kernel
theorem dX2_isAhead_29 : decode cX2_isAhead 29 = .ok (.iload_n 1, 1) := by decide +kernel
theorem dX2_isAhead_30 : decode cX2_isAhead 30 = .ok (.iload 4, 2) := by decide +kernel
theorem dX2_isAhead_32 : decode cX2_isAhead 32 = .ok (.iand, 1) := by decide +kernel
theorem dX2_isAhead_33 : decode cX2_isAhead 33 = .ok (.if_icmp .ge 7, 3) := by decide +kernel
theorem dX2_isAhead_36 : decode cX2_isAhead 36 = .ok (.iconst 1, 1) := by decide +kernel
theorem dX2_isAhead_37 : decode cX2_isAhead 37 = .ok (.goto 4, 3) := by decide +kernel
theorem dX2_isAhead_40 : decode cX2_isAhead 40 = .ok (.iconst 0, 1) := by decide +kernel
theorem dX2_isAhead_41 : decode cX2_isAhead 41 = .ok (.ireturn, 1) := by decide +kernel
theorem dX3_init_0 : decode cX3_init 0 = .ok (.aload_n 0, 1) := by decide +kernel
theorem dX3_init_1 : decode cX3_init 1 = .ok (.invokespecial 3, 3) := by decide +kernel
theorem dX3_init_4 : decode cX3_init 4 = .ok (.aload_n 0, 1) := by decide +kernel
theorem dX3_init_5 : decode cX3_init 5 = .ok (.bipush 48, 2) := by decide +kernel
theorem dX3_init_7 : decode cX3_init 7 = .ok (.newarray .int, 2) := by decide +kernel
theorem dX3_init_9 : decode cX3_init 9 = .ok (.putfield 9, 3) := by decide +kernel
theorem dX3_init_12 : decode cX3_init 12 = .ok (.aload_n 0, 1) := by decide +kernel
theorem dX3_init_13 : decode cX3_init 13 = .ok (.iconst 0, 1) := by decide +kernel
theorem dX3_init_14 : decode cX3_init 14 = .ok (.putfield 15, 3) := by decide +kernel
theorem dX3_init_17 : decode cX3_init 17 = .ok (.return_, 1) := by decide +kernel
theorem dX3_append_0 : decode cX3_append 0 = .ok (.iload_n 1, 1) := by decide +kernel
theorem dX3_append_1 : decode cX3_append 1 = .ok (.iconst 1, 1) := by decide +kernel
theorem dX3_append_2 : decode cX3_append 2 = .ok (.isub, 1) := by decide +kernel
theorem dX3_append_3 : decode cX3_append 3 = .ok (.istore 4, 2) := by decide +kernel
theorem dX3_append_5 : decode cX3_append 5 = .ok (.iload 4, 2) := by decide +kernel
theorem dX3_append_7 : decode cX3_append 7 = .ok (.ifCond .lt 49, 3) := by decide +kernel
theorem dX3_append_10 : decode cX3_append 10 = .ok (.aload_n 0, 1) := by decide +kernel
theorem dX3_append_11 : decode cX3_append 11 = .ok (.getfield 15, 3) := by decide +kernel
theorem dX3_append_14 : decode cX3_append 14 = .ok (.bipush 48, 2) := by decide +kernel
theorem dX3_append_16 : decode cX3_append 16 = .ok (.if_icmp .ge 40, 3) := by decide +kernel
theorem dX3_append_19 : decode cX3_append 19 = .ok (.aload_n 0, 1) := by decide +kernel
theorem dX3_append_20 : decode cX3_append 20 = .ok (.getfield 9, 3) := by decide +kernel
theorem dX3_append_23 : decode cX3_append 23 = .ok (.aload_n 0, 1) := by decide +kernel
theorem dX3_append_24 : decode cX3_append 24 = .ok (.getfield 15, 3) := by decide +kernel
theorem dX3_append_27 : decode cX3_append 27 = .ok (.lload_n 2, 1) := by decide +kernel
theorem dX3_append_28 : decode cX3_append 28 = .ok (.bipush 8, 2) := by decide +kernel
theorem dX3_append_30 : decode cX3_append 30 = .ok (.iload 4, 2) := by decide +kernel
theorem dX3_append_32 : decode cX3_append 32 = .ok (.imul, 1) := by decide +kernel
theorem dX3_append_33 : decode cX3_append 33 = .ok (.lushr, 1) := by decide +kernel
theorem dX3_append_34 : decode cX3_append 34 = .ok (.l2i, 1) := by decide +kernel
theorem dX3_append_35 : decode cX3_append 35 = .ok (.sipush 255, 3) := by decide +kernel
theorem dX3_append_38 : decode cX3_append 38 = .ok (.iand, 1) := by decide +kernel
theorem dX3_append_39 : decode cX3_append 39 = .ok (.iastore, 1) := by decide +kernel
theorem dX3_append_40 : decode cX3_append 40 = .ok (.aload_n 0, 1) := by decide +kernel
theorem dX3_append_41 : decode cX3_append 41 = .ok (.dup, 1) := by decide +kernel
theorem dX3_append_42 : decode cX3_append 42 = .ok (.getfield 15, 3) := by decide +kernel
theorem dX3_append_45 : decode cX3_append 45 = .ok (.iconst 1, 1) := by decide +kernel
theorem dX3_append_46 : decode cX3_append 46 = .ok (.iadd, 1) := by decide +kernel
theorem dX3_append_47 : decode cX3_append 47 = .ok (.putfield 15, 3) := by decide +kernel
theorem dX3_append_50 : decode cX3_append 50 = .ok (.iinc 4 (-1), 3) := by decide +kernel
theorem dX3_append_53 : decode cX3_append 53 = .ok (.goto (-48), 3) := by decide +kernel
theorem dX3_append_56 : decode cX3_append 56 = .ok (.return_, 1) := by decide +kernel
theorem dX3_firstFault_0 : decode cX3_firstFault 0 = .ok (.iconst 0, 1) := by decide +kernel
theorem dX3_firstFault_1 : decode cX3_firstFault 1 = .ok (.istore_n 1, 1) := by decide +kernel
theorem dX3_firstFault_2 : decode cX3_firstFault 2 = .ok (.iload_n 1, 1) := by decide +kernel
theorem dX3_firstFault_3 : decode cX3_firstFault 3 = .ok (.aload_n 0, 1) := by decide +kernel
theorem dX3_firstFault_4 : decode cX3_firstFault 4 = .ok (.getfield 15, 3) := by decide +kernel
theorem dX3_firstFault_7 : decode cX3_firstFault 7 = .ok (.if_icmp .ge 19, 3) := by decide +kernel
theorem dX3_firstFault_10 : decode cX3_firstFault 10 = .ok (.aload_n 0, 1) := by decide +kernel
theorem dX3_firstFault_11 : decode cX3_firstFault 11 = .ok (.iload_n 1, 1) := by decide +kernel
theorem dX3_firstFault_12 : decode cX3_firstFault 12 = .ok (.invokevirtual 19, 3) := by decide +kernel
theorem dX3_firstFault_15 : decode cX3_firstFault 15 = .ok (.ifCond .ne 5, 3) := by decide +kernel
theorem dX3_firstFault_18 : decode cX3_firstFault 18 = .ok (.iload_n 1, 1) := by decide +kernel
theorem dX3_firstFault_19 : decode cX3_firstFault 19 = .ok (.ireturn, 1) := by decide +kernel
theorem dX3_firstFault_20 : decode cX3_firstFault 20 = .ok (.iinc 1 1, 3) := by decide +kernel
theorem dX3_firstFault_23 : decode cX3_firstFault 23 = .ok (.goto (-21), 3) := by decide +kernel
theorem dX3_firstFault_26 : decode cX3_firstFault 26 = .ok (.aload_n 0, 1) := by decide +kernel
theorem dX3_firstFault_27 : decode cX3_firstFault 27 = .ok (.getfield 15, 3) := by decide +kernel
theorem dX3_firstFault_30 : decode cX3_firstFault 30 = .ok (.bipush 6, 2) := by decide +kernel
theorem dX3_firstFault_32 : decode cX3_firstFault 32 = .ok (.if_icmp .lt 19, 3) := by decide +kernel
theorem dX3_firstFault_35 : decode cX3_firstFault 35 = .ok (.aload_n 0, 1) := by decide +kernel
theorem dX3_firstFault_36 : decode cX3_firstFault 36 = .ok (.getfield 15, 3) := by decide +kernel
theorem dX3_firstFault_39 : decode cX3_firstFault 39 = .ok (.bipush 6, 2) := by decide +kernel
theorem dX3_firstFault_41 : decode cX3_firstFault 41 = .ok (.isub, 1) := by decide +kernel
theorem dX3_firstFault_42 : decode cX3_firstFault 42 = .ok (.iconst 5, 1) := by decide +kernel
theorem dX3_firstFault_43 : decode cX3_firstFault 43 = .ok (.irem, 1) := by decide +kernel
theorem dX3_firstFault_44 : decode cX3_firstFault 44 = .ok (.ifCond .ne 7, 3) := by decide +kernel
theorem dX3_firstFault_47 : decode cX3_firstFault 47 = .ok (.iconst 1, 1) := by decide +kernel
theorem dX3_firstFault_48 : decode cX3_firstFault 48 = .ok (.goto 4, 3) := by decide +kernel
theorem dX3_firstFault_51 : decode cX3_firstFault 51 = .ok (.iconst 0, 1) := by decide +kernel
theorem dX3_firstFault_52 : decode cX3_firstFault 52 = .ok (.istore_n 1, 1) := by decide +kernel
theorem dX3_firstFault_53 : decode cX3_firstFault 53 = .ok (.iload_n 1, 1) := by decide +kernel
theorem dX3_firstFault_54 : decode cX3_firstFault 54 = .ok (.ifCond .eq 8, 3) := by decide +kernel
theorem dX3_firstFault_57 : decode cX3_firstFault 57 = .ok (.bipush (-9), 2) := by decide +kernel
theorem dX3_firstFault_59 : decode cX3_firstFault 59 = .ok (.goto 7, 3) := by decide +kernel
theorem dX3_firstFault_62 : decode cX3_firstFault 62 = .ok (.aload_n 0, 1) := by decide +kernel
theorem dX3_firstFault_63 : decode cX3_firstFault 63 = .ok (.getfield 15, 3) := by decide +kernel
theorem dX3_firstFault_66 : decode cX3_firstFault 66 = .ok (.ireturn, 1) := by decide +kernel
theorem dX3_mayStand_0 : decode cX3_mayStand 0 = .ok (.iload_n 1, 1) := by decide +kernel
theorem dX3_mayStand_1 : decode cX3_mayStand 1 = .ok (.bipush 6, 2) := by decide +kernel
theorem dX3_mayStand_3 : decode cX3_mayStand 3 = .ok (.if_icmp .lt 23, 3) := by decide +kernel
theorem dX3_mayStand_6 : decode cX3_mayStand 6 = .ok (.iload_n 1, 1) := by decide +kernel
theorem dX3_mayStand_7 : decode cX3_mayStand 7 = .ok (.bipush 46, 2) := by decide +kernel
theorem dX3_mayStand_9 : decode cX3_mayStand 9 = .ok (.if_icmp .ge 15, 3) := by decide +kernel
theorem dX3_mayStand_12 : decode cX3_mayStand 12 = .ok (.aload_n 0, 1) := by decide +kernel
theorem dX3_mayStand_13 : decode cX3_mayStand 13 = .ok (.iload_n 1, 1) := by decide +kernel
theorem dX3_mayStand_14 : decode cX3_mayStand 14 = .ok (.invokevirtual 23, 3) := by decide +kernel
theorem dX3_mayStand_17 : decode cX3_mayStand 17 = .ok (.ifCond .eq 7, 3) := by decide +kernel
theorem dX3_mayStand_20 : decode cX3_mayStand 20 = .ok (.iconst 1, 1) := by decide +kernel
theorem dX3_mayStand_21 : decode cX3_mayStand 21 = .ok (.goto 4, 3) := by decide +kernel
theorem dX3_mayStand_24 : decode cX3_mayStand 24 = .ok (.iconst 0, 1) := by decide +kernel
theorem dX3_mayStand_25 : decode cX3_mayStand 25 = .ok (.ireturn, 1) := by decide +kernel
theorem dX3_mayStand_26 : decode cX3_mayStand 26 = .ok (.iload_n 1, 1) := by decide +kernel
theorem dX3_mayStand_27 : decode cX3_mayStand 27 = .ok (.tableswitch 82 0 4 #[33, 49, 57, 65, 73], 33) := by decide +kernel
theorem dX3_mayStand_60 : decode cX3_mayStand 60 = .ok (.aload_n 0, 1) := by decide +kernel
theorem dX3_mayStand_61 : decode cX3_mayStand 61 = .ok (.iconst 0, 1) := by decide +kernel
theorem dX3_mayStand_62 : decode cX3_mayStand 62 = .ok (.invokevirtual 26, 3) := by decide +kernel
theorem dX3_mayStand_65 : decode cX3_mayStand 65 = .ok (.bipush 66, 2) := by decide +kernel
theorem dX3_mayStand_67 : decode cX3_mayStand 67 = .ok (.if_icmp .ne 7, 3) := by decide +kernel
theorem dX3_mayStand_70 : decode cX3_mayStand 70 = .ok (.iconst 1, 1) := by decide +kernel
theorem dX3_mayStand_71 : decode cX3_mayStand 71 = .ok (.goto 4, 3) := by decide +kernel
theorem dX3_mayStand_74 : decode cX3_mayStand 74 = .ok (.iconst 0, 1) := by decide +kernel
theorem dX3_mayStand_75 : decode cX3_mayStand 75 = .ok (.ireturn, 1) := by decide +kernel
theorem dX3_mayStand_76 : decode cX3_mayStand 76 = .ok (.aload_n 0, 1) := by decide +kernel
theorem dX3_mayStand_77 : decode cX3_mayStand 77 = .ok (.iload_n 1, 1) := by decide +kernel
theorem dX3_mayStand_78 : decode cX3_mayStand 78 = .ok (.iconst 2, 1) := by decide +kernel
theorem dX3_mayStand_79 : decode cX3_mayStand 79 = .ok (.iconst 3, 1) := by decide +kernel
theorem dX3_mayStand_80 : decode cX3_mayStand 80 = .ok (.invokevirtual 30, 3) := by decide +kernel
theorem dX3_mayStand_83 : decode cX3_mayStand 83 = .ok (.ireturn, 1) := by decide +kernel
theorem dX3_mayStand_84 : decode cX3_mayStand 84 = .ok (.aload_n 0, 1) := by decide +kernel
theorem dX3_mayStand_85 : decode cX3_mayStand 85 = .ok (.iload_n 1, 1) := by decide +kernel
theorem dX3_mayStand_86 : decode cX3_mayStand 86 = .ok (.iconst 1, 1) := by decide +kernel
theorem dX3_mayStand_87 : decode cX3_mayStand 87 = .ok (.iconst 3, 1) := by decide +kernel
theorem dX3_mayStand_88 : decode cX3_mayStand 88 = .ok (.invokevirtual 30, 3) := by decide +kernel
theorem dX3_mayStand_91 : decode cX3_mayStand 91 = .ok (.ireturn, 1) := by decide +kernel
theorem dX3_mayStand_92 : decode cX3_mayStand 92 = .ok (.aload_n 0, 1) := by decide +kernel
theorem dX3_mayStand_93 : decode cX3_mayStand 93 = .ok (.iload_n 1, 1) := by decide +kernel
theorem dX3_mayStand_94 : decode cX3_mayStand 94 = .ok (.iconst 1, 1) := by decide +kernel
theorem dX3_mayStand_95 : decode cX3_mayStand 95 = .ok (.iconst 3, 1) := by decide +kernel
theorem dX3_mayStand_96 : decode cX3_mayStand 96 = .ok (.invokevirtual 30, 3) := by decide +kernel
theorem dX3_mayStand_99 : decode cX3_mayStand 99 = .ok (.ireturn, 1) := by decide +kernel
theorem dX3_mayStand_100 : decode cX3_mayStand 100 = .ok (.aload_n 0, 1) := by decide +kernel
theorem dX3_mayStand_101 : decode cX3_mayStand 101 = .ok (.iload_n 1, 1) := by decide +kernel
theorem dX3_mayStand_102 : decode cX3_mayStand 102 = .ok (.iconst 1, 1) := by decide +kernel
theorem dX3_mayStand_103 : decode cX3_mayStand 103 = .ok (.bipush 8, 2) := by decide +kernel
theorem dX3_mayStand_105 : decode cX3_mayStand 105 = .ok (.invokevirtual 30, 3) := by decide +kernel
theorem dX3_mayStand_108 : decode cX3_mayStand 108 = .ok (.ireturn, 1) := by decide +kernel
theorem dX3_mayStand_109 : decode cX3_mayStand 109 = .ok (.aload_n 0, 1) := by decide +kernel
theorem dX3_mayStand_110 : decode cX3_mayStand 110 = .ok (.iload_n 1, 1) := by decide +kernel
theorem dX3_mayStand_111 : decode cX3_mayStand 111 = .ok (.iconst 0, 1) := by decide +kernel
theorem dX3_mayStand_112 : decode cX3_mayStand 112 = .ok (.bipush 9, 2) := by decide +kernel
theorem dX3_mayStand_114 : decode cX3_mayStand 114 = .ok (.invokevirtual 30, 3) := by decide +kernel
theorem dX3_mayStand_117 : decode cX3_mayStand 117 = .ok (.ireturn, 1) := by decide +kernel
theorem dX3_mayStandInPerson_0 : decode cX3_mayStandInPerson 0 = .ok (.iload_n 1, 1) := by decide +kernel
theorem dX3_mayStandInPerson_1 : decode cX3_mayStandInPerson 1 = .ok (.bipush 6, 2) := by decide +kernel
theorem dX3_mayStandInPerson_3 : decode cX3_mayStandInPerson 3 = .ok (.isub, 1) := by decide +kernel
theorem dX3_mayStandInPerson_4 : decode cX3_mayStandInPerson 4 = .ok (.iconst 5, 1) := by decide +kernel
theorem dX3_mayStandInPerson_5 : decode cX3_mayStandInPerson 5 = .ok (.irem, 1) := by decide +kernel
theorem dX3_mayStandInPerson_6 : decode cX3_mayStandInPerson 6 = .ok (.tableswitch 104 0 4 #[34, 104, 50, 104, 73], 34) := by decide +kernel
theorem dX3_mayStandInPerson_40 : decode cX3_mayStandInPerson 40 = .ok (.aload_n 0, 1) := by decide +kernel
theorem dX3_mayStandInPerson_41 : decode cX3_mayStandInPerson 41 = .ok (.iload_n 1, 1) := by decide +kernel
theorem dX3_mayStandInPerson_42 : decode cX3_mayStandInPerson 42 = .ok (.invokevirtual 26, 3) := by decide +kernel
theorem dX3_mayStandInPerson_45 : decode cX3_mayStandInPerson 45 = .ok (.bipush 80, 2) := by decide +kernel
theorem dX3_mayStandInPerson_47 : decode cX3_mayStandInPerson 47 = .ok (.if_icmp .ne 7, 3) := by decide +kernel
theorem dX3_mayStandInPerson_50 : decode cX3_mayStandInPerson 50 = .ok (.iconst 1, 1) := by decide +kernel
theorem dX3_mayStandInPerson_51 : decode cX3_mayStandInPerson 51 = .ok (.goto 4, 3) := by decide +kernel
theorem dX3_mayStandInPerson_54 : decode cX3_mayStandInPerson 54 = .ok (.iconst 0, 1) := by decide +kernel
theorem dX3_mayStandInPerson_55 : decode cX3_mayStandInPerson 55 = .ok (.ireturn, 1) := by decide +kernel
theorem dX3_mayStandInPerson_56 : decode cX3_mayStandInPerson 56 = .ok (.aload_n 0, 1) := by decide +kernel
theorem dX3_mayStandInPerson_57 : decode cX3_mayStandInPerson 57 = .ok (.iload_n 1, 1) := by decide +kernel
theorem dX3_mayStandInPerson_58 : decode cX3_mayStandInPerson 58 = .ok (.aload_n 0, 1) := by decide +kernel
theorem dX3_mayStandInPerson_59 : decode cX3_mayStandInPerson 59 = .ok (.iload_n 1, 1) := by decide +kernel
theorem dX3_mayStandInPerson_60 : decode cX3_mayStandInPerson 60 = .ok (.iconst 1, 1) := by decide +kernel
theorem dX3_mayStandInPerson_61 : decode cX3_mayStandInPerson 61 = .ok (.isub, 1) := by decide +kernel
theorem dX3_mayStandInPerson_62 : decode cX3_mayStandInPerson 62 = .ok (.invokevirtual 34, 3) := by decide +kernel
theorem dX3_mayStandInPerson_65 : decode cX3_mayStandInPerson 65 = .ok (.ifCond .ne 7, 3) := by decide +kernel
theorem dX3_mayStandInPerson_68 : decode cX3_mayStandInPerson 68 = .ok (.iconst 1, 1) := by decide +kernel
theorem dX3_mayStandInPerson_69 : decode cX3_mayStandInPerson 69 = .ok (.goto 4, 3) := by decide +kernel
theorem dX3_mayStandInPerson_72 : decode cX3_mayStandInPerson 72 = .ok (.iconst 0, 1) := by decide +kernel
theorem dX3_mayStandInPerson_73 : decode cX3_mayStandInPerson 73 = .ok (.bipush 9, 2) := by decide +kernel
theorem dX3_mayStandInPerson_75 : decode cX3_mayStandInPerson 75 = .ok (.invokevirtual 30, 3) := by decide +kernel
theorem dX3_mayStandInPerson_78 : decode cX3_mayStandInPerson 78 = .ok (.ireturn, 1) := by decide +kernel
theorem dX3_mayStandInPerson_79 : decode cX3_mayStandInPerson 79 = .ok (.aload_n 0, 1) := by decide +kernel
theorem dX3_mayStandInPerson_80 : decode cX3_mayStandInPerson 80 = .ok (.iload_n 1, 1) := by decide +kernel
theorem dX3_mayStandInPerson_81 : decode cX3_mayStandInPerson 81 = .ok (.invokevirtual 34, 3) := by decide +kernel
theorem dX3_mayStandInPerson_84 : decode cX3_mayStandInPerson 84 = .ok (.iconst 3, 1) := by decide +kernel
theorem dX3_mayStandInPerson_85 : decode cX3_mayStandInPerson 85 = .ok (.if_icmp .eq 19, 3) := by decide +kernel
theorem dX3_mayStandInPerson_88 : decode cX3_mayStandInPerson 88 = .ok (.aload_n 0, 1) := by decide +kernel
theorem dX3_mayStandInPerson_89 : decode cX3_mayStandInPerson 89 = .ok (.iload_n 1, 1) := by decide +kernel
theorem dX3_mayStandInPerson_90 : decode cX3_mayStandInPerson 90 = .ok (.iconst 0, 1) := by decide +kernel
theorem dX3_mayStandInPerson_91 : decode cX3_mayStandInPerson 91 = .ok (.aload_n 0, 1) := by decide +kernel
theorem dX3_mayStandInPerson_92 : decode cX3_mayStandInPerson 92 = .ok (.iconst 1, 1) := by decide +kernel
theorem dX3_mayStandInPerson_93 : decode cX3_mayStandInPerson 93 = .ok (.invokevirtual 34, 3) := by decide +kernel
theorem dX3_mayStandInPerson_96 : decode cX3_mayStandInPerson 96 = .ok (.iconst 1, 1) := by decide +kernel
theorem dX3_mayStandInPerson_97 : decode cX3_mayStandInPerson 97 = .ok (.isub, 1) := by decide +kernel
theorem dX3_mayStandInPerson_98 : decode cX3_mayStandInPerson 98 = .ok (.invokevirtual 30, 3) := by decide +kernel
theorem dX3_mayStandInPerson_101 : decode cX3_mayStandInPerson 101 = .ok (.ifCond .eq 7, 3) := by decide +kernel
theorem dX3_mayStandInPerson_104 : decode cX3_mayStandInPerson 104 = .ok (.iconst 1, 1) := by decide +kernel
theorem dX3_mayStandInPerson_105 : decode cX3_mayStandInPerson 105 = .ok (.goto 4, 3) := by decide +kernel
theorem dX3_mayStandInPerson_108 : decode cX3_mayStandInPerson 108 = .ok (.iconst 0, 1) := by decide +kernel
theorem dX3_mayStandInPerson_109 : decode cX3_mayStandInPerson 109 = .ok (.ireturn, 1) := by decide +kernel
theorem dX3_mayStandInPerson_110 : decode cX3_mayStandInPerson 110 = .ok (.aload_n 0, 1) := by decide +kernel
theorem dX3_mayStandInPerson_111 : decode cX3_mayStandInPerson 111 = .ok (.iload_n 1, 1) := by decide +kernel
theorem dX3_mayStandInPerson_112 : decode cX3_mayStandInPerson 112 = .ok (.iconst 0, 1) := by decide +kernel
theorem dX3_mayStandInPerson_113 : decode cX3_mayStandInPerson 113 = .ok (.bipush 9, 2) := by decide +kernel
theorem dX3_mayStandInPerson_115 : decode cX3_mayStandInPerson 115 = .ok (.invokevirtual 30, 3) := by decide +kernel
theorem dX3_mayStandInPerson_118 : decode cX3_mayStandInPerson 118 = .ok (.ireturn, 1) := by decide +kernel
theorem dX3_isFigure_0 : decode cX3_isFigure 0 = .ok (.aload_n 0, 1) := by decide +kernel
theorem dX3_isFigure_1 : decode cX3_isFigure 1 = .ok (.iload_n 1, 1) := by decide +kernel
theorem dX3_isFigure_2 : decode cX3_isFigure 2 = .ok (.invokevirtual 34, 3) := by decide +kernel
theorem dX3_isFigure_5 : decode cX3_isFigure 5 = .ok (.iload_n 2, 1) := by decide +kernel
theorem dX3_isFigure_6 : decode cX3_isFigure 6 = .ok (.if_icmp .lt 16, 3) := by decide +kernel
theorem dX3_isFigure_9 : decode cX3_isFigure 9 = .ok (.aload_n 0, 1) := by decide +kernel
theorem dX3_isFigure_10 : decode cX3_isFigure 10 = .ok (.iload_n 1, 1) := by decide +kernel
theorem dX3_isFigure_11 : decode cX3_isFigure 11 = .ok (.invokevirtual 34, 3) := by decide +kernel
theorem dX3_isFigure_14 : decode cX3_isFigure 14 = .ok (.iload_n 3, 1) := by decide +kernel
theorem dX3_isFigure_15 : decode cX3_isFigure 15 = .ok (.if_icmp .gt 7, 3) := by decide +kernel
theorem dX3_isFigure_18 : decode cX3_isFigure 18 = .ok (.iconst 1, 1) := by decide +kernel
theorem dX3_isFigure_19 : decode cX3_isFigure 19 = .ok (.goto 4, 3) := by decide +kernel
theorem dX3_isFigure_22 : decode cX3_isFigure 22 = .ok (.iconst 0, 1) := by decide +kernel
theorem dX3_isFigure_23 : decode cX3_isFigure 23 = .ok (.ireturn, 1) := by decide +kernel
theorem dX3_figure_0 : decode cX3_figure 0 = .ok (.aload_n 0, 1) := by decide +kernel
theorem dX3_figure_1 : decode cX3_figure 1 = .ok (.iload_n 1, 1) := by decide +kernel
theorem dX3_figure_2 : decode cX3_figure 2 = .ok (.invokevirtual 26, 3) := by decide +kernel
theorem dX3_figure_5 : decode cX3_figure 5 = .ok (.bipush 48, 2) := by decide +kernel
theorem dX3_figure_7 : decode cX3_figure 7 = .ok (.isub, 1) := by decide +kernel
theorem dX3_figure_8 : decode cX3_figure 8 = .ok (.ireturn, 1) := by decide +kernel
theorem dX3_byteAt_0 : decode cX3_byteAt 0 = .ok (.iload_n 1, 1) := by decide +kernel
theorem dX3_byteAt_1 : decode cX3_byteAt 1 = .ok (.ifCond .lt 26, 3) := by decide +kernel
theorem dX3_byteAt_4 : decode cX3_byteAt 4 = .ok (.iload_n 1, 1) := by decide +kernel
theorem dX3_byteAt_5 : decode cX3_byteAt 5 = .ok (.aload_n 0, 1) := by decide +kernel
theorem dX3_byteAt_6 : decode cX3_byteAt 6 = .ok (.getfield 15, 3) := by decide +kernel
theorem dX3_byteAt_9 : decode cX3_byteAt 9 = .ok (.if_icmp .ge 18, 3) := by decide +kernel
theorem dX3_byteAt_12 : decode cX3_byteAt 12 = .ok (.iload_n 1, 1) := by decide +kernel
theorem dX3_byteAt_13 : decode cX3_byteAt 13 = .ok (.bipush 48, 2) := by decide +kernel
theorem dX3_byteAt_15 : decode cX3_byteAt 15 = .ok (.if_icmp .ge 12, 3) := by decide +kernel
theorem dX3_byteAt_18 : decode cX3_byteAt 18 = .ok (.aload_n 0, 1) := by decide +kernel
theorem dX3_byteAt_19 : decode cX3_byteAt 19 = .ok (.getfield 9, 3) := by decide +kernel
theorem dX3_byteAt_22 : decode cX3_byteAt 22 = .ok (.iload_n 1, 1) := by decide +kernel
theorem dX3_byteAt_23 : decode cX3_byteAt 23 = .ok (.iaload, 1) := by decide +kernel
theorem dX3_byteAt_24 : decode cX3_byteAt 24 = .ok (.goto 4, 3) := by decide +kernel
theorem dX3_byteAt_27 : decode cX3_byteAt 27 = .ok (.iconst 0, 1) := by decide +kernel
theorem dX3_byteAt_28 : decode cX3_byteAt 28 = .ok (.ireturn, 1) := by decide +kernel
theorem dX4_init_0 : decode cX4_init 0 = .ok (.aload_n 0, 1) := by decide +kernel
theorem dX4_init_1 : decode cX4_init 1 = .ok (.invokespecial 1, 3) := by decide +kernel
theorem dX4_init_4 : decode cX4_init 4 = .ok (.aload_n 0, 1) := by decide +kernel
theorem dX4_init_5 : decode cX4_init 5 = .ok (.new 7, 3) := by decide +kernel
theorem dX4_init_8 : decode cX4_init 8 = .ok (.dup, 1) := by decide +kernel
theorem dX4_init_9 : decode cX4_init 9 = .ok (.invokespecial 9, 3) := by decide +kernel
theorem dX4_init_12 : decode cX4_init 12 = .ok (.putfield 10, 3) := by decide +kernel
theorem dX4_init_15 : decode cX4_init 15 = .ok (.aload_n 0, 1) := by decide +kernel
theorem dX4_init_16 : decode cX4_init 16 = .ok (.new 16, 3) := by decide +kernel
theorem dX4_init_19 : decode cX4_init 19 = .ok (.dup, 1) := by decide +kernel
theorem dX4_init_20 : decode cX4_init 20 = .ok (.invokespecial 18, 3) := by decide +kernel
theorem dX4_init_23 : decode cX4_init 23 = .ok (.putfield 19, 3) := by decide +kernel
theorem dX4_init_26 : decode cX4_init 26 = .ok (.aload_n 0, 1) := by decide +kernel
theorem dX4_init_27 : decode cX4_init 27 = .ok (.new 23, 3) := by decide +kernel
theorem dX4_init_30 : decode cX4_init 30 = .ok (.dup, 1) := by decide +kernel
theorem dX4_init_31 : decode cX4_init 31 = .ok (.invokespecial 25, 3) := by decide +kernel
theorem dX4_init_34 : decode cX4_init 34 = .ok (.putfield 26, 3) := by decide +kernel
theorem dX4_init_37 : decode cX4_init 37 = .ok (.aload_n 0, 1) := by decide +kernel
theorem dX4_init_38 : decode cX4_init 38 = .ok (.new 23, 3) := by decide +kernel
theorem dX4_init_41 : decode cX4_init 41 = .ok (.dup, 1) := by decide +kernel
theorem dX4_init_42 : decode cX4_init 42 = .ok (.invokespecial 25, 3) := by decide +kernel
theorem dX4_init_45 : decode cX4_init 45 = .ok (.putfield 30, 3) := by decide +kernel
theorem dX4_init_48 : decode cX4_init 48 = .ok (.aload_n 0, 1) := by decide +kernel
theorem dX4_init_49 : decode cX4_init 49 = .ok (.new 23, 3) := by decide +kernel
theorem dX4_init_52 : decode cX4_init 52 = .ok (.dup, 1) := by decide +kernel
theorem dX4_init_53 : decode cX4_init 53 = .ok (.invokespecial 25, 3) := by decide +kernel
theorem dX4_init_56 : decode cX4_init 56 = .ok (.putfield 33, 3) := by decide +kernel
theorem dX4_init_59 : decode cX4_init 59 = .ok (.aload_n 0, 1) := by decide +kernel
theorem dX4_init_60 : decode cX4_init 60 = .ok (.new 36, 3) := by decide +kernel
theorem dX4_init_63 : decode cX4_init 63 = .ok (.dup, 1) := by decide +kernel
theorem dX4_init_64 : decode cX4_init 64 = .ok (.invokespecial 38, 3) := by decide +kernel
theorem dX4_init_67 : decode cX4_init 67 = .ok (.putfield 39, 3) := by decide +kernel
theorem dX4_init_70 : decode cX4_init 70 = .ok (.return_, 1) := by decide +kernel
theorem dX4_write_0 : decode cX4_write 0 = .ok (.iload_n 1, 1) := by decide +kernel
theorem dX4_write_1 : decode cX4_write 1 = .ok (.iconst 1, 1) := by decide +kernel
theorem dX4_write_2 : decode cX4_write 2 = .ok (.if_icmp .lt 9, 3) := by decide +kernel
theorem dX4_write_5 : decode cX4_write 5 = .ok (.iload_n 1, 1) := by decide +kernel
theorem dX4_write_6 : decode cX4_write 6 = .ok (.bipush 8, 2) := by decide +kernel
theorem dX4_write_8 : decode cX4_write 8 = .ok (.if_icmp .le 6, 3) := by decide +kernel
theorem dX4_write_11 : decode cX4_write 11 = .ok (.bipush (-2), 2) := by decide +kernel
theorem dX4_write_13 : decode cX4_write 13 = .ok (.ireturn, 1) := by decide +kernel
theorem dX4_write_14 : decode cX4_write 14 = .ok (.aload_n 0, 1) := by decide +kernel
theorem dX4_write_15 : decode cX4_write 15 = .ok (.getfield 10, 3) := by decide +kernel
theorem dX4_write_18 : decode cX4_write 18 = .ok (.getfield 43, 3) := by decide +kernel
theorem dX4_write_21 : decode cX4_write 21 = .ok (.iload_n 1, 1) := by decide +kernel
theorem dX4_write_22 : decode cX4_write 22 = .ok (.iadd, 1) := by decide +kernel
theorem dX4_write_23 : decode cX4_write 23 = .ok (.bipush 48, 2) := by decide +kernel
theorem dX4_write_25 : decode cX4_write 25 = .ok (.if_icmp .le 6, 3) := by decide +kernel
theorem dX4_write_28 : decode cX4_write 28 = .ok (.bipush (-4), 2) := by decide +kernel
theorem dX4_write_30 : decode cX4_write 30 = .ok (.ireturn, 1) := by decide +kernel
theorem dX4_write_31 : decode cX4_write 31 = .ok (.aload_n 0, 1) := by decide +kernel
theorem dX4_write_32 : decode cX4_write 32 = .ok (.getfield 10, 3) := by decide +kernel
theorem dX4_write_35 : decode cX4_write 35 = .ok (.iload_n 1, 1) := by decide +kernel
theorem dX4_write_36 : decode cX4_write 36 = .ok (.lload_n 2, 1) := by decide +kernel
theorem dX4_write_37 : decode cX4_write 37 = .ok (.invokevirtual 47, 3) := by decide +kernel
theorem dX4_write_40 : decode cX4_write 40 = .ok (.aload_n 0, 1) := by decide +kernel
theorem dX4_write_41 : decode cX4_write 41 = .ok (.getfield 10, 3) := by decide +kernel
theorem dX4_write_44 : decode cX4_write 44 = .ok (.getfield 43, 3) := by decide +kernel
theorem dX4_write_47 : decode cX4_write 47 = .ok (.ireturn, 1) := by decide +kernel
theorem dX4_wipe_0 : decode cX4_wipe 0 = .ok (.aload_n 0, 1) := by decide +kernel
theorem dX4_wipe_1 : decode cX4_wipe 1 = .ok (.getfield 10, 3) := by decide +kernel
theorem dX4_wipe_4 : decode cX4_wipe 4 = .ok (.getfield 43, 3) := by decide +kernel
theorem dX4_wipe_7 : decode cX4_wipe 7 = .ok (.istore_n 1, 1) := by decide +kernel
theorem dX4_wipe_8 : decode cX4_wipe 8 = .ok (.aload_n 0, 1) := by decide +kernel
theorem dX4_wipe_9 : decode cX4_wipe 9 = .ok (.getfield 10, 3) := by decide +kernel
theorem dX4_wipe_12 : decode cX4_wipe 12 = .ok (.iconst 0, 1) := by decide +kernel
theorem dX4_wipe_13 : decode cX4_wipe 13 = .ok (.putfield 43, 3) := by decide +kernel
theorem dX4_wipe_16 : decode cX4_wipe 16 = .ok (.iload_n 1, 1) := by decide +kernel
theorem dX4_wipe_17 : decode cX4_wipe 17 = .ok (.ireturn, 1) := by decide +kernel
theorem dX4_fault_0 : decode cX4_fault 0 = .ok (.aload_n 0, 1) := by decide +kernel
theorem dX4_fault_1 : decode cX4_fault 1 = .ok (.getfield 10, 3) := by decide +kernel
theorem dX4_fault_4 : decode cX4_fault 4 = .ok (.invokevirtual 51, 3) := by decide +kernel
theorem dX4_fault_7 : decode cX4_fault 7 = .ok (.ireturn, 1) := by decide +kernel
theorem dX4_ferry_0 : decode cX4_ferry 0 = .ok (.aload_n 0, 1) := by decide +kernel
theorem dX4_ferry_1 : decode cX4_ferry 1 = .ok (.getfield 10, 3) := by decide +kernel
theorem dX4_ferry_4 : decode cX4_ferry 4 = .ok (.invokevirtual 51, 3) := by decide +kernel
theorem dX4_ferry_7 : decode cX4_ferry 7 = .ok (.bipush (-9), 2) := by decide +kernel
theorem dX4_ferry_9 : decode cX4_ferry 9 = .ok (.if_icmp .eq 6, 3) := by decide +kernel
theorem dX4_ferry_12 : decode cX4_ferry 12 = .ok (.bipush (-3), 2) := by decide +kernel
theorem dX4_ferry_14 : decode cX4_ferry 14 = .ok (.ireturn, 1) := by decide +kernel
theorem dX4_ferry_15 : decode cX4_ferry 15 = .ok (.aload_n 0, 1) := by decide +kernel
theorem dX4_ferry_16 : decode cX4_ferry 16 = .ok (.getfield 19, 3) := by decide +kernel
theorem dX4_ferry_19 : decode cX4_ferry 19 = .ok (.aload_n 0, 1) := by decide +kernel
theorem dX4_ferry_20 : decode cX4_ferry 20 = .ok (.getfield 10, 3) := by decide +kernel
theorem dX4_ferry_23 : decode cX4_ferry 23 = .ok (.invokevirtual 55, 3) := by decide +kernel
theorem dX4_ferry_26 : decode cX4_ferry 26 = .ok (.aload_n 0, 1) := by decide +kernel
theorem dX4_ferry_27 : decode cX4_ferry 27 = .ok (.getfield 26, 3) := by decide +kernel
theorem dX4_ferry_30 : decode cX4_ferry 30 = .ok (.aload_n 0, 1) := by decide +kernel
theorem dX4_ferry_31 : decode cX4_ferry 31 = .ok (.getfield 19, 3) := by decide +kernel
theorem dX4_ferry_34 : decode cX4_ferry 34 = .ok (.invokevirtual 59, 3) := by decide +kernel
theorem dX4_ferry_37 : decode cX4_ferry 37 = .ok (.aload_n 0, 1) := by decide +kernel
theorem dX4_ferry_38 : decode cX4_ferry 38 = .ok (.getfield 30, 3) := by decide +kernel
theorem dX4_ferry_41 : decode cX4_ferry 41 = .ok (.iconst 0, 1) := by decide +kernel
theorem dX4_ferry_42 : decode cX4_ferry 42 = .ok (.putfield 63, 3) := by decide +kernel
theorem dX4_ferry_45 : decode cX4_ferry 45 = .ok (.aload_n 0, 1) := by decide +kernel
theorem dX4_ferry_46 : decode cX4_ferry 46 = .ok (.getfield 33, 3) := by decide +kernel
theorem dX4_ferry_49 : decode cX4_ferry 49 = .ok (.iconst 0, 1) := by decide +kernel
theorem dX4_ferry_50 : decode cX4_ferry 50 = .ok (.putfield 63, 3) := by decide +kernel
theorem dX4_ferry_53 : decode cX4_ferry 53 = .ok (.aload_n 0, 1) := by decide +kernel
theorem dX4_ferry_54 : decode cX4_ferry 54 = .ok (.getfield 39, 3) := by decide +kernel
theorem dX4_ferry_57 : decode cX4_ferry 57 = .ok (.invokevirtual 67, 3) := by decide +kernel
theorem dX4_ferry_60 : decode cX4_ferry 60 = .ok (.aload_n 0, 1) := by decide +kernel
theorem dX4_ferry_61 : decode cX4_ferry 61 = .ok (.getfield 19, 3) := by decide +kernel
theorem dX4_ferry_64 : decode cX4_ferry 64 = .ok (.getfield 70, 3) := by decide +kernel
theorem dX4_ferry_67 : decode cX4_ferry 67 = .ok (.ireturn, 1) := by decide +kernel
theorem dX4_boat_0 : decode cX4_boat 0 = .ok (.iload_n 1, 1) := by decide +kernel
theorem dX4_boat_1 : decode cX4_boat 1 = .ok (.tableswitch 87 0 5 #[39, 47, 55, 63, 71, 79], 39) := by decide +kernel
theorem dX4_boat_40 : decode cX4_boat 40 = .ok (.aload_n 0, 1) := by decide +kernel
theorem dX4_boat_41 : decode cX4_boat 41 = .ok (.getfield 19, 3) := by decide +kernel
theorem dX4_boat_44 : decode cX4_boat 44 = .ok (.getfield 73, 3) := by decide +kernel
theorem dX4_boat_47 : decode cX4_boat 47 = .ok (.ireturn, 1) := by decide +kernel
theorem dX4_boat_48 : decode cX4_boat 48 = .ok (.aload_n 0, 1) := by decide +kernel
theorem dX4_boat_49 : decode cX4_boat 49 = .ok (.getfield 19, 3) := by decide +kernel
theorem dX4_boat_52 : decode cX4_boat 52 = .ok (.getfield 76, 3) := by decide +kernel
theorem dX4_boat_55 : decode cX4_boat 55 = .ok (.ireturn, 1) := by decide +kernel
theorem dX4_boat_56 : decode cX4_boat 56 = .ok (.aload_n 0, 1) := by decide +kernel
theorem dX4_boat_57 : decode cX4_boat 57 = .ok (.getfield 19, 3) := by decide +kernel
theorem dX4_boat_60 : decode cX4_boat 60 = .ok (.getfield 79, 3) := by decide +kernel
theorem dX4_boat_63 : decode cX4_boat 63 = .ok (.ireturn, 1) := by decide +kernel
theorem dX4_boat_64 : decode cX4_boat 64 = .ok (.aload_n 0, 1) := by decide +kernel
theorem dX4_boat_65 : decode cX4_boat 65 = .ok (.getfield 19, 3) := by decide +kernel
theorem dX4_boat_68 : decode cX4_boat 68 = .ok (.getfield 82, 3) := by decide +kernel
theorem dX4_boat_71 : decode cX4_boat 71 = .ok (.ireturn, 1) := by decide +kernel
theorem dX4_boat_72 : decode cX4_boat 72 = .ok (.aload_n 0, 1) := by decide +kernel
theorem dX4_boat_73 : decode cX4_boat 73 = .ok (.getfield 19, 3) := by decide +kernel
theorem dX4_boat_76 : decode cX4_boat 76 = .ok (.getfield 85, 3) := by decide +kernel
theorem dX4_boat_79 : decode cX4_boat 79 = .ok (.ireturn, 1) := by decide +kernel
theorem dX4_boat_80 : decode cX4_boat 80 = .ok (.aload_n 0, 1) := by decide +kernel
theorem dX4_boat_81 : decode cX4_boat 81 = .ok (.getfield 26, 3) := by decide +kernel
theorem dX4_boat_84 : decode cX4_boat 84 = .ok (.getfield 88, 3) := by decide +kernel
theorem dX4_boat_87 : decode cX4_boat 87 = .ok (.ireturn, 1) := by decide +kernel
theorem dX4_boat_88 : decode cX4_boat 88 = .ok (.bipush (-2), 2) := by decide +kernel
theorem dX4_boat_90 : decode cX4_boat 90 = .ok (.ireturn, 1) := by decide +kernel
theorem dX4_person_0 : decode cX4_person 0 = .ok (.aload_n 0, 1) := by decide +kernel
theorem dX4_person_1 : decode cX4_person 1 = .ok (.getfield 19, 3) := by decide +kernel
theorem dX4_person_4 : decode cX4_person 4 = .ok (.iload_n 1, 1) := by decide +kernel
theorem dX4_person_5 : decode cX4_person 5 = .ok (.invokevirtual 91, 3) := by decide +kernel
theorem dX4_person_8 : decode cX4_person 8 = .ok (.ifCond .ne 5, 3) := by decide +kernel
theorem dX4_person_11 : decode cX4_person 11 = .ok (.iconst (-1), 1) := by decide +kernel
theorem dX4_person_12 : decode cX4_person 12 = .ok (.ireturn, 1) := by decide +kernel
theorem dX4_person_13 : decode cX4_person 13 = .ok (.iload_n 2, 1) := by decide +kernel
theorem dX4_person_14 : decode cX4_person 14 = .ok (.tableswitch 100 0 5 #[38, 48, 58, 68, 81, 91], 38) := by decide +kernel
theorem dX4_person_52 : decode cX4_person 52 = .ok (.aload_n 0, 1) := by decide +kernel
theorem dX4_person_53 : decode cX4_person 53 = .ok (.getfield 19, 3) := by decide +kernel
theorem dX4_person_56 : decode cX4_person 56 = .ok (.getfield 95, 3) := by decide +kernel
theorem dX4_person_59 : decode cX4_person 59 = .ok (.iload_n 1, 1) := by decide +kernel
theorem dX4_person_60 : decode cX4_person 60 = .ok (.iaload, 1) := by decide +kernel
theorem dX4_person_61 : decode cX4_person 61 = .ok (.ireturn, 1) := by decide +kernel
theorem dX4_person_62 : decode cX4_person 62 = .ok (.aload_n 0, 1) := by decide +kernel
theorem dX4_person_63 : decode cX4_person 63 = .ok (.getfield 19, 3) := by decide +kernel
theorem dX4_person_66 : decode cX4_person 66 = .ok (.getfield 99, 3) := by decide +kernel
theorem dX4_person_69 : decode cX4_person 69 = .ok (.iload_n 1, 1) := by decide +kernel
theorem dX4_person_70 : decode cX4_person 70 = .ok (.iaload, 1) := by decide +kernel
theorem dX4_person_71 : decode cX4_person 71 = .ok (.ireturn, 1) := by decide +kernel
theorem dX4_person_72 : decode cX4_person 72 = .ok (.aload_n 0, 1) := by decide +kernel
theorem dX4_person_73 : decode cX4_person 73 = .ok (.getfield 19, 3) := by decide +kernel
theorem dX4_person_76 : decode cX4_person 76 = .ok (.getfield 102, 3) := by decide +kernel
theorem dX4_person_79 : decode cX4_person 79 = .ok (.iload_n 1, 1) := by decide +kernel
theorem dX4_person_80 : decode cX4_person 80 = .ok (.iaload, 1) := by decide +kernel
theorem dX4_person_81 : decode cX4_person 81 = .ok (.ireturn, 1) := by decide +kernel
theorem dX4_person_82 : decode cX4_person 82 = .ok (.aload_n 0, 1) := by decide +kernel
theorem dX4_person_83 : decode cX4_person 83 = .ok (.getfield 26, 3) := by decide +kernel
theorem dX4_person_86 : decode cX4_person 86 = .ok (.getfield 105, 3) := by decide +kernel
theorem dX4_person_89 : decode cX4_person 89 = .ok (.iload_n 1, 1) := by decide +kernel
theorem dX4_person_90 : decode cX4_person 90 = .ok (.iaload, 1) := by decide +kernel
theorem dX4_person_91 : decode cX4_person 91 = .ok (.bipush 10, 2) := by decide +kernel
theorem dX4_person_93 : decode cX4_person 93 = .ok (.iadd, 1) := by decide +kernel
theorem dX4_person_94 : decode cX4_person 94 = .ok (.ireturn, 1) := by decide +kernel
theorem dX4_person_95 : decode cX4_person 95 = .ok (.aload_n 0, 1) := by decide +kernel
theorem dX4_person_96 : decode cX4_person 96 = .ok (.getfield 26, 3) := by decide +kernel
theorem dX4_person_99 : decode cX4_person 99 = .ok (.getfield 108, 3) := by decide +kernel
theorem dX4_person_102 : decode cX4_person 102 = .ok (.iload_n 1, 1) := by decide +kernel
theorem dX4_person_103 : decode cX4_person 103 = .ok (.iaload, 1) := by decide +kernel
theorem dX4_person_104 : decode cX4_person 104 = .ok (.ireturn, 1) := by decide +kernel
theorem dX4_person_105 : decode cX4_person 105 = .ok (.aload_n 0, 1) := by decide +kernel
theorem dX4_person_106 : decode cX4_person 106 = .ok (.getfield 26, 3) := by decide +kernel
theorem dX4_person_109 : decode cX4_person 109 = .ok (.iload_n 1, 1) := by decide +kernel
theorem dX4_person_110 : decode cX4_person 110 = .ok (.invokevirtual 111, 3) := by decide +kernel
theorem dX4_person_113 : decode cX4_person 113 = .ok (.ireturn, 1) := by decide +kernel
theorem dX4_person_114 : decode cX4_person 114 = .ok (.bipush (-2), 2) := by decide +kernel
theorem dX4_person_116 : decode cX4_person 116 = .ok (.ireturn, 1) := by decide +kernel
theorem dX4_gain_0 : decode cX4_gain 0 = .ok (.aload_n 0, 1) := by decide +kernel
theorem dX4_gain_1 : decode cX4_gain 1 = .ok (.getfield 19, 3) := by decide +kernel
theorem dX4_gain_4 : decode cX4_gain 4 = .ok (.iload_n 1, 1) := by decide +kernel
theorem dX4_gain_5 : decode cX4_gain 5 = .ok (.invokevirtual 91, 3) := by decide +kernel
theorem dX4_gain_8 : decode cX4_gain 8 = .ok (.ifCond .ne 5, 3) := by decide +kernel
theorem dX4_gain_11 : decode cX4_gain 11 = .ok (.iconst (-1), 1) := by decide +kernel
theorem dX4_gain_12 : decode cX4_gain 12 = .ok (.ireturn, 1) := by decide +kernel
theorem dX4_gain_13 : decode cX4_gain 13 = .ok (.iload_n 2, 1) := by decide +kernel
theorem dX4_gain_14 : decode cX4_gain 14 = .ok (.bipush (-3), 2) := by decide +kernel
theorem dX4_gain_16 : decode cX4_gain 16 = .ok (.if_icmp .lt 8, 3) := by decide +kernel
theorem dX4_gain_19 : decode cX4_gain 19 = .ok (.iload_n 2, 1) := by decide +kernel
theorem dX4_gain_20 : decode cX4_gain 20 = .ok (.iconst 3, 1) := by decide +kernel
theorem dX4_gain_21 : decode cX4_gain 21 = .ok (.if_icmp .le 6, 3) := by decide +kernel
theorem dX4_gain_24 : decode cX4_gain 24 = .ok (.bipush (-2), 2) := by decide +kernel
theorem dX4_gain_26 : decode cX4_gain 26 = .ok (.ireturn, 1) := by decide +kernel
theorem dX4_gain_27 : decode cX4_gain 27 = .ok (.aload_n 0, 1) := by decide +kernel
theorem dX4_gain_28 : decode cX4_gain 28 = .ok (.getfield 26, 3) := by decide +kernel
theorem dX4_gain_31 : decode cX4_gain 31 = .ok (.getfield 105, 3) := by decide +kernel
theorem dX4_gain_34 : decode cX4_gain 34 = .ok (.iload_n 1, 1) := by decide +kernel
theorem dX4_gain_35 : decode cX4_gain 35 = .ok (.iaload, 1) := by decide +kernel
theorem dX4_gain_36 : decode cX4_gain 36 = .ok (.istore_n 3, 1) := by decide +kernel
theorem dX4_gain_37 : decode cX4_gain 37 = .ok (.aload_n 0, 1) := by decide +kernel
theorem dX4_gain_38 : decode cX4_gain 38 = .ok (.getfield 26, 3) := by decide +kernel
theorem dX4_gain_41 : decode cX4_gain 41 = .ok (.getfield 105, 3) := by decide +kernel
theorem dX4_gain_44 : decode cX4_gain 44 = .ok (.iload_n 1, 1) := by decide +kernel
theorem dX4_gain_45 : decode cX4_gain 45 = .ok (.iload_n 2, 1) := by decide +kernel
theorem dX4_gain_46 : decode cX4_gain 46 = .ok (.iastore, 1) := by decide +kernel
theorem dX4_gain_47 : decode cX4_gain 47 = .ok (.aload_n 0, 1) := by decide +kernel
theorem dX4_gain_48 : decode cX4_gain 48 = .ok (.getfield 39, 3) := by decide +kernel
theorem dX4_gain_51 : decode cX4_gain 51 = .ok (.invokevirtual 67, 3) := by decide +kernel
theorem dX4_gain_54 : decode cX4_gain 54 = .ok (.iload_n 3, 1) := by decide +kernel
theorem dX4_gain_55 : decode cX4_gain 55 = .ok (.bipush 10, 2) := by decide +kernel
theorem dX4_gain_57 : decode cX4_gain 57 = .ok (.iadd, 1) := by decide +kernel
theorem dX4_gain_58 : decode cX4_gain 58 = .ok (.ireturn, 1) := by decide +kernel
theorem dX4_minutes_0 : decode cX4_minutes 0 = .ok (.iload_n 1, 1) := by decide +kernel
theorem dX4_minutes_1 : decode cX4_minutes 1 = .ok (.invokestatic 115, 3) := by decide +kernel
theorem dX4_minutes_4 : decode cX4_minutes 4 = .ok (.ifCond .ne 6, 3) := by decide +kernel
theorem dX4_minutes_7 : decode cX4_minutes 7 = .ok (.bipush (-2), 2) := by decide +kernel
theorem dX4_minutes_9 : decode cX4_minutes 9 = .ok (.ireturn, 1) := by decide +kernel
theorem dX4_minutes_10 : decode cX4_minutes 10 = .ok (.aload_n 0, 1) := by decide +kernel
theorem dX4_minutes_11 : decode cX4_minutes 11 = .ok (.getfield 26, 3) := by decide +kernel
theorem dX4_minutes_14 : decode cX4_minutes 14 = .ok (.getfield 88, 3) := by decide +kernel
theorem dX4_minutes_17 : decode cX4_minutes 17 = .ok (.istore_n 2, 1) := by decide +kernel
theorem dX4_minutes_18 : decode cX4_minutes 18 = .ok (.aload_n 0, 1) := by decide +kernel
theorem dX4_minutes_19 : decode cX4_minutes 19 = .ok (.getfield 26, 3) := by decide +kernel
theorem dX4_minutes_22 : decode cX4_minutes 22 = .ok (.iload_n 1, 1) := by decide +kernel
theorem dX4_minutes_23 : decode cX4_minutes 23 = .ok (.putfield 88, 3) := by decide +kernel
theorem dX4_minutes_26 : decode cX4_minutes 26 = .ok (.aload_n 0, 1) := by decide +kernel
theorem dX4_minutes_27 : decode cX4_minutes 27 = .ok (.getfield 39, 3) := by decide +kernel
theorem dX4_minutes_30 : decode cX4_minutes 30 = .ok (.invokevirtual 67, 3) := by decide +kernel
theorem dX4_minutes_33 : decode cX4_minutes 33 = .ok (.iload_n 2, 1) := by decide +kernel
theorem dX4_minutes_34 : decode cX4_minutes 34 = .ok (.ireturn, 1) := by decide +kernel
theorem dX4_lay_0 : decode cX4_lay 0 = .ok (.aload_n 0, 1) := by decide +kernel
theorem dX4_lay_1 : decode cX4_lay 1 = .ok (.getfield 19, 3) := by decide +kernel
theorem dX4_lay_4 : decode cX4_lay 4 = .ok (.iload_n 1, 1) := by decide +kernel
theorem dX4_lay_5 : decode cX4_lay 5 = .ok (.invokevirtual 91, 3) := by decide +kernel
theorem dX4_lay_8 : decode cX4_lay 8 = .ok (.ifCond .eq 14, 3) := by decide +kernel
theorem dX4_lay_11 : decode cX4_lay 11 = .ok (.aload_n 0, 1) := by decide +kernel
theorem dX4_lay_12 : decode cX4_lay 12 = .ok (.getfield 19, 3) := by decide +kernel
theorem dX4_lay_15 : decode cX4_lay 15 = .ok (.iload_n 2, 1) := by decide +kernel
theorem dX4_lay_16 : decode cX4_lay 16 = .ok (.invokevirtual 118, 3) := by decide +kernel
theorem dX4_lay_19 : decode cX4_lay 19 = .ok (.ifCond .ne 5, 3) := by decide +kernel
theorem dX4_lay_22 : decode cX4_lay 22 = .ok (.iconst (-1), 1) := by decide +kernel
theorem dX4_lay_23 : decode cX4_lay 23 = .ok (.ireturn, 1) := by decide +kernel
theorem dX4_lay_24 : decode cX4_lay 24 = .ok (.aload_n 0, 1) := by decide +kernel
theorem dX4_lay_25 : decode cX4_lay 25 = .ok (.getfield 26, 3) := by decide +kernel
theorem dX4_lay_28 : decode cX4_lay 28 = .ok (.iload_n 1, 1) := by decide +kernel
theorem dX4_lay_29 : decode cX4_lay 29 = .ok (.invokevirtual 111, 3) := by decide +kernel
theorem dX4_lay_32 : decode cX4_lay 32 = .ok (.bipush 10, 2) := by decide +kernel
theorem dX4_lay_34 : decode cX4_lay 34 = .ok (.if_icmp .ne 15, 3) := by decide +kernel
theorem dX4_lay_37 : decode cX4_lay 37 = .ok (.aload_n 0, 1) := by decide +kernel
theorem dX4_lay_38 : decode cX4_lay 38 = .ok (.getfield 19, 3) := by decide +kernel
theorem dX4_lay_41 : decode cX4_lay 41 = .ok (.iload_n 1, 1) := by decide +kernel
theorem dX4_lay_42 : decode cX4_lay 42 = .ok (.iload_n 2, 1) := by decide +kernel
theorem dX4_lay_43 : decode cX4_lay 43 = .ok (.invokevirtual 121, 3) := by decide +kernel
theorem dX4_lay_46 : decode cX4_lay 46 = .ok (.ifCond .ne 6, 3) := by decide +kernel
theorem dX4_lay_49 : decode cX4_lay 49 = .ok (.bipush (-3), 2) := by decide +kernel
theorem dX4_lay_51 : decode cX4_lay 51 = .ok (.ireturn, 1) := by decide +kernel
theorem dX4_lay_52 : decode cX4_lay 52 = .ok (.aload_n 0, 1) := by decide +kernel
theorem dX4_lay_53 : decode cX4_lay 53 = .ok (.getfield 26, 3) := by decide +kernel
theorem dX4_lay_56 : decode cX4_lay 56 = .ok (.invokevirtual 125, 3) := by decide +kernel
theorem dX4_lay_59 : decode cX4_lay 59 = .ok (.iload_n 2, 1) := by decide +kernel
theorem dX4_lay_60 : decode cX4_lay 60 = .ok (.invokestatic 128, 3) := by decide +kernel
theorem dX4_lay_63 : decode cX4_lay 63 = .ok (.invokestatic 132, 3) := by decide +kernel
theorem dX4_lay_66 : decode cX4_lay 66 = .ok (.istore_n 3, 1) := by decide +kernel
theorem dX4_lay_67 : decode cX4_lay 67 = .ok (.iload_n 3, 1) := by decide +kernel
theorem dX4_lay_68 : decode cX4_lay 68 = .ok (.aload_n 0, 1) := by decide +kernel
theorem dX4_lay_69 : decode cX4_lay 69 = .ok (.getfield 19, 3) := by decide +kernel
theorem dX4_lay_72 : decode cX4_lay 72 = .ok (.getfield 82, 3) := by decide +kernel
theorem dX4_lay_75 : decode cX4_lay 75 = .ok (.if_icmp .lt 6, 3) := by decide +kernel
theorem dX4_lay_78 : decode cX4_lay 78 = .ok (.bipush (-4), 2) := by decide +kernel
theorem dX4_lay_80 : decode cX4_lay 80 = .ok (.ireturn, 1) := by decide +kernel
theorem dX4_lay_81 : decode cX4_lay 81 = .ok (.aload_n 0, 1) := by decide +kernel
theorem dX4_lay_82 : decode cX4_lay 82 = .ok (.getfield 26, 3) := by decide +kernel
theorem dX4_lay_85 : decode cX4_lay 85 = .ok (.aload_n 0, 1) := by decide +kernel
theorem dX4_lay_86 : decode cX4_lay 86 = .ok (.getfield 26, 3) := by decide +kernel
theorem dX4_lay_89 : decode cX4_lay 89 = .ok (.invokevirtual 125, 3) := by decide +kernel
theorem dX4_lay_92 : decode cX4_lay 92 = .ok (.iload_n 1, 1) := by decide +kernel
theorem dX4_lay_93 : decode cX4_lay 93 = .ok (.iload_n 2, 1) := by decide +kernel
theorem dX4_lay_94 : decode cX4_lay 94 = .ok (.invokestatic 137, 3) := by decide +kernel
theorem dX4_lay_97 : decode cX4_lay 97 = .ok (.invokevirtual 141, 3) := by decide +kernel
theorem dX4_lay_100 : decode cX4_lay 100 = .ok (.iload_n 3, 1) := by decide +kernel
theorem dX4_lay_101 : decode cX4_lay 101 = .ok (.iconst 1, 1) := by decide +kernel
theorem dX4_lay_102 : decode cX4_lay 102 = .ok (.iadd, 1) := by decide +kernel
theorem dX4_lay_103 : decode cX4_lay 103 = .ok (.ireturn, 1) := by decide +kernel
theorem dX4_unlay_0 : decode cX4_unlay 0 = .ok (.aload_n 0, 1) := by decide +kernel
theorem dX4_unlay_1 : decode cX4_unlay 1 = .ok (.getfield 19, 3) := by decide +kernel
theorem dX4_unlay_4 : decode cX4_unlay 4 = .ok (.iload_n 1, 1) := by decide +kernel
theorem dX4_unlay_5 : decode cX4_unlay 5 = .ok (.invokevirtual 91, 3) := by decide +kernel
theorem dX4_unlay_8 : decode cX4_unlay 8 = .ok (.ifCond .ne 5, 3) := by decide +kernel
theorem dX4_unlay_11 : decode cX4_unlay 11 = .ok (.iconst (-1), 1) := by decide +kernel
theorem dX4_unlay_12 : decode cX4_unlay 12 = .ok (.ireturn, 1) := by decide +kernel
theorem dX4_unlay_13 : decode cX4_unlay 13 = .ok (.aload_n 0, 1) := by decide +kernel
theorem dX4_unlay_14 : decode cX4_unlay 14 = .ok (.getfield 26, 3) := by decide +kernel
theorem dX4_unlay_17 : decode cX4_unlay 17 = .ok (.invokevirtual 125, 3) := by decide +kernel
theorem dX4_unlay_20 : decode cX4_unlay 20 = .ok (.iload_n 1, 1) := by decide +kernel
theorem dX4_unlay_21 : decode cX4_unlay 21 = .ok (.invokestatic 145, 3) := by decide +kernel
theorem dX4_unlay_24 : decode cX4_unlay 24 = .ok (.istore_n 2, 1) := by decide +kernel
theorem dX4_unlay_25 : decode cX4_unlay 25 = .ok (.iload_n 2, 1) := by decide +kernel
theorem dX4_unlay_26 : decode cX4_unlay 26 = .ok (.bipush (-9), 2) := by decide +kernel
theorem dX4_unlay_28 : decode cX4_unlay 28 = .ok (.if_icmp .ne 6, 3) := by decide +kernel
theorem dX4_unlay_31 : decode cX4_unlay 31 = .ok (.bipush (-3), 2) := by decide +kernel
theorem dX4_unlay_33 : decode cX4_unlay 33 = .ok (.ireturn, 1) := by decide +kernel
theorem dX4_unlay_34 : decode cX4_unlay 34 = .ok (.aload_n 0, 1) := by decide +kernel
theorem dX4_unlay_35 : decode cX4_unlay 35 = .ok (.getfield 26, 3) := by decide +kernel
theorem dX4_unlay_38 : decode cX4_unlay 38 = .ok (.aload_n 0, 1) := by decide +kernel
theorem dX4_unlay_39 : decode cX4_unlay 39 = .ok (.getfield 26, 3) := by decide +kernel
theorem dX4_unlay_42 : decode cX4_unlay 42 = .ok (.invokevirtual 125, 3) := by decide +kernel
theorem dX4_unlay_45 : decode cX4_unlay 45 = .ok (.iload_n 1, 1) := by decide +kernel
theorem dX4_unlay_46 : decode cX4_unlay 46 = .ok (.iload_n 2, 1) := by decide +kernel
theorem dX4_unlay_47 : decode cX4_unlay 47 = .ok (.invokestatic 148, 3) := by decide +kernel
theorem dX4_unlay_50 : decode cX4_unlay 50 = .ok (.invokevirtual 141, 3) := by decide +kernel
theorem dX4_unlay_53 : decode cX4_unlay 53 = .ok (.aload_n 0, 1) := by decide +kernel
theorem dX4_unlay_54 : decode cX4_unlay 54 = .ok (.getfield 26, 3) := by decide +kernel
theorem dX4_unlay_57 : decode cX4_unlay 57 = .ok (.invokevirtual 125, 3) := by decide +kernel
theorem dX4_unlay_60 : decode cX4_unlay 60 = .ok (.invokestatic 132, 3) := by decide +kernel
theorem dX4_unlay_63 : decode cX4_unlay 63 = .ok (.ireturn, 1) := by decide +kernel
theorem dX4_weighs_0 : decode cX4_weighs 0 = .ok (.aload_n 0, 1) := by decide +kernel
theorem dX4_weighs_1 : decode cX4_weighs 1 = .ok (.getfield 19, 3) := by decide +kernel
theorem dX4_weighs_4 : decode cX4_weighs 4 = .ok (.iload_n 1, 1) := by decide +kernel
theorem dX4_weighs_5 : decode cX4_weighs 5 = .ok (.invokevirtual 118, 3) := by decide +kernel
theorem dX4_weighs_8 : decode cX4_weighs 8 = .ok (.ifCond .ne 5, 3) := by decide +kernel
theorem dX4_weighs_11 : decode cX4_weighs 11 = .ok (.iconst (-1), 1) := by decide +kernel
theorem dX4_weighs_12 : decode cX4_weighs 12 = .ok (.ireturn, 1) := by decide +kernel
theorem dX4_weighs_13 : decode cX4_weighs 13 = .ok (.iload_n 2, 1) := by decide +kernel
theorem dX4_weighs_14 : decode cX4_weighs 14 = .ok (.invokestatic 115, 3) := by decide +kernel
theorem dX4_weighs_17 : decode cX4_weighs 17 = .ok (.ifCond .ne 6, 3) := by decide +kernel
theorem dX4_weighs_20 : decode cX4_weighs 20 = .ok (.bipush (-2), 2) := by decide +kernel
theorem dX4_weighs_22 : decode cX4_weighs 22 = .ok (.ireturn, 1) := by decide +kernel
theorem dX4_weighs_23 : decode cX4_weighs 23 = .ok (.aload_n 0, 1) := by decide +kernel
theorem dX4_weighs_24 : decode cX4_weighs 24 = .ok (.getfield 19, 3) := by decide +kernel
theorem dX4_weighs_27 : decode cX4_weighs 27 = .ok (.aload_n 0, 1) := by decide +kernel
theorem dX4_weighs_28 : decode cX4_weighs 28 = .ok (.getfield 26, 3) := by decide +kernel
theorem dX4_weighs_31 : decode cX4_weighs 31 = .ok (.invokevirtual 125, 3) := by decide +kernel
theorem dX4_weighs_34 : decode cX4_weighs 34 = .ok (.iload_n 1, 1) := by decide +kernel
theorem dX4_weighs_35 : decode cX4_weighs 35 = .ok (.aload_n 0, 1) := by decide +kernel
theorem dX4_weighs_36 : decode cX4_weighs 36 = .ok (.getfield 19, 3) := by decide +kernel
theorem dX4_weighs_39 : decode cX4_weighs 39 = .ok (.getfield 95, 3) := by decide +kernel
theorem dX4_weighs_42 : decode cX4_weighs 42 = .ok (.aload_n 0, 1) := by decide +kernel
theorem dX4_weighs_43 : decode cX4_weighs 43 = .ok (.getfield 26, 3) := by decide +kernel
theorem dX4_weighs_46 : decode cX4_weighs 46 = .ok (.getfield 105, 3) := by decide +kernel
theorem dX4_weighs_49 : decode cX4_weighs 49 = .ok (.iload_n 2, 1) := by decide +kernel
theorem dX4_weighs_50 : decode cX4_weighs 50 = .ok (.invokevirtual 151, 3) := by decide +kernel
theorem dX4_weighs_53 : decode cX4_weighs 53 = .ok (.ireturn, 1) := by decide +kernel
theorem dX4_off_0 : decode cX4_off 0 = .ok (.iload_n 1, 1) := by decide +kernel
theorem dX4_off_1 : decode cX4_off 1 = .ok (.invokestatic 115, 3) := by decide +kernel
theorem dX4_off_4 : decode cX4_off 4 = .ok (.ifCond .ne 6, 3) := by decide +kernel
theorem dX4_off_7 : decode cX4_off 7 = .ok (.bipush (-2), 2) := by decide +kernel
theorem dX4_off_9 : decode cX4_off 9 = .ok (.ireturn, 1) := by decide +kernel
theorem dX4_off_10 : decode cX4_off 10 = .ok (.aload_n 0, 1) := by decide +kernel
theorem dX4_off_11 : decode cX4_off 11 = .ok (.getfield 19, 3) := by decide +kernel
theorem dX4_off_14 : decode cX4_off 14 = .ok (.aload_n 0, 1) := by decide +kernel
theorem dX4_off_15 : decode cX4_off 15 = .ok (.getfield 26, 3) := by decide +kernel
theorem dX4_off_18 : decode cX4_off 18 = .ok (.invokevirtual 125, 3) := by decide +kernel
theorem dX4_off_21 : decode cX4_off 21 = .ok (.aload_n 0, 1) := by decide +kernel
theorem dX4_off_22 : decode cX4_off 22 = .ok (.getfield 19, 3) := by decide +kernel
theorem dX4_off_25 : decode cX4_off 25 = .ok (.getfield 95, 3) := by decide +kernel
theorem dX4_off_28 : decode cX4_off 28 = .ok (.aload_n 0, 1) := by decide +kernel
theorem dX4_off_29 : decode cX4_off 29 = .ok (.getfield 26, 3) := by decide +kernel
theorem dX4_off_32 : decode cX4_off 32 = .ok (.getfield 105, 3) := by decide +kernel
theorem dX4_off_35 : decode cX4_off 35 = .ok (.iload_n 1, 1) := by decide +kernel
theorem dX4_off_36 : decode cX4_off 36 = .ok (.invokevirtual 155, 3) := by decide +kernel
theorem dX4_off_39 : decode cX4_off 39 = .ok (.sipush 10000, 3) := by decide +kernel
theorem dX4_off_42 : decode cX4_off 42 = .ok (.iadd, 1) := by decide +kernel
theorem dX4_off_43 : decode cX4_off 43 = .ok (.ireturn, 1) := by decide +kernel
theorem dX4_leave_0 : decode cX4_leave 0 = .ok (.aload_n 0, 1) := by decide +kernel
theorem dX4_leave_1 : decode cX4_leave 1 = .ok (.getfield 26, 3) := by decide +kernel
theorem dX4_leave_4 : decode cX4_leave 4 = .ok (.invokevirtual 125, 3) := by decide +kernel
theorem dX4_leave_7 : decode cX4_leave 7 = .ok (.istore_n 1, 1) := by decide +kernel
theorem dX4_leave_8 : decode cX4_leave 8 = .ok (.iload_n 1, 1) := by decide +kernel
theorem dX4_leave_9 : decode cX4_leave 9 = .ok (.ifCond .eq 25, 3) := by decide +kernel
theorem dX4_leave_12 : decode cX4_leave 12 = .ok (.aload_n 0, 1) := by decide +kernel
theorem dX4_leave_13 : decode cX4_leave 13 = .ok (.getfield 19, 3) := by decide +kernel
theorem dX4_leave_16 : decode cX4_leave 16 = .ok (.iload_n 1, 1) := by decide +kernel
theorem dX4_leave_17 : decode cX4_leave 17 = .ok (.aload_n 0, 1) := by decide +kernel
theorem dX4_leave_18 : decode cX4_leave 18 = .ok (.getfield 19, 3) := by decide +kernel
theorem dX4_leave_21 : decode cX4_leave 21 = .ok (.getfield 95, 3) := by decide +kernel
theorem dX4_leave_24 : decode cX4_leave 24 = .ok (.aload_n 0, 1) := by decide +kernel
theorem dX4_leave_25 : decode cX4_leave 25 = .ok (.getfield 26, 3) := by decide +kernel
theorem dX4_leave_28 : decode cX4_leave 28 = .ok (.invokevirtual 159, 3) := by decide +kernel
theorem dX4_leave_31 : decode cX4_leave 31 = .ok (.ifCond .ne 6, 3) := by decide +kernel
theorem dX4_leave_34 : decode cX4_leave 34 = .ok (.bipush (-3), 2) := by decide +kernel
theorem dX4_leave_36 : decode cX4_leave 36 = .ok (.ireturn, 1) := by decide +kernel
theorem dX4_leave_37 : decode cX4_leave 37 = .ok (.aload_n 0, 1) := by decide +kernel
theorem dX4_leave_38 : decode cX4_leave 38 = .ok (.getfield 26, 3) := by decide +kernel
theorem dX4_leave_41 : decode cX4_leave 41 = .ok (.getfield 163, 3) := by decide +kernel
theorem dX4_leave_44 : decode cX4_leave 44 = .ok (.bipush 8, 2) := by decide +kernel
theorem dX4_leave_46 : decode cX4_leave 46 = .ok (.if_icmp .lt 6, 3) := by decide +kernel
theorem dX4_leave_49 : decode cX4_leave 49 = .ok (.bipush (-4), 2) := by decide +kernel
theorem dX4_leave_51 : decode cX4_leave 51 = .ok (.ireturn, 1) := by decide +kernel
theorem dX4_leave_52 : decode cX4_leave 52 = .ok (.aload_n 0, 1) := by decide +kernel
theorem dX4_leave_53 : decode cX4_leave 53 = .ok (.getfield 26, 3) := by decide +kernel
theorem dX4_leave_56 : decode cX4_leave 56 = .ok (.invokevirtual 166, 3) := by decide +kernel
theorem dX4_leave_59 : decode cX4_leave 59 = .ok (.aload_n 0, 1) := by decide +kernel
theorem dX4_leave_60 : decode cX4_leave 60 = .ok (.getfield 39, 3) := by decide +kernel
theorem dX4_leave_63 : decode cX4_leave 63 = .ok (.invokevirtual 67, 3) := by decide +kernel
theorem dX4_leave_66 : decode cX4_leave 66 = .ok (.aload_n 0, 1) := by decide +kernel
theorem dX4_leave_67 : decode cX4_leave 67 = .ok (.getfield 19, 3) := by decide +kernel
theorem dX4_leave_70 : decode cX4_leave 70 = .ok (.iload_n 1, 1) := by decide +kernel
theorem dX4_leave_71 : decode cX4_leave 71 = .ok (.invokestatic 169, 3) := by decide +kernel
theorem dX4_leave_74 : decode cX4_leave 74 = .ok (.invokevirtual 172, 3) := by decide +kernel
theorem dX4_leave_77 : decode cX4_leave 77 = .ok (.ireturn, 1) := by decide +kernel
theorem dX4_back_0 : decode cX4_back 0 = .ok (.aload_n 0, 1) := by decide +kernel
theorem dX4_back_1 : decode cX4_back 1 = .ok (.getfield 26, 3) := by decide +kernel
theorem dX4_back_4 : decode cX4_back 4 = .ok (.getfield 163, 3) := by decide +kernel
theorem dX4_back_7 : decode cX4_back 7 = .ok (.iconst 1, 1) := by decide +kernel
theorem dX4_back_8 : decode cX4_back 8 = .ok (.if_icmp .ge 6, 3) := by decide +kernel
theorem dX4_back_11 : decode cX4_back 11 = .ok (.bipush (-3), 2) := by decide +kernel
theorem dX4_back_13 : decode cX4_back 13 = .ok (.ireturn, 1) := by decide +kernel
theorem dX4_back_14 : decode cX4_back 14 = .ok (.aload_n 0, 1) := by decide +kernel
theorem dX4_back_15 : decode cX4_back 15 = .ok (.getfield 26, 3) := by decide +kernel
theorem dX4_back_18 : decode cX4_back 18 = .ok (.invokevirtual 175, 3) := by decide +kernel
theorem dX4_back_21 : decode cX4_back 21 = .ok (.aload_n 0, 1) := by decide +kernel
theorem dX4_back_22 : decode cX4_back 22 = .ok (.getfield 39, 3) := by decide +kernel
theorem dX4_back_25 : decode cX4_back 25 = .ok (.invokevirtual 67, 3) := by decide +kernel
theorem dX4_back_28 : decode cX4_back 28 = .ok (.aload_n 0, 1) := by decide +kernel
theorem dX4_back_29 : decode cX4_back 29 = .ok (.getfield 26, 3) := by decide +kernel
theorem dX4_back_32 : decode cX4_back 32 = .ok (.getfield 163, 3) := by decide +kernel
theorem dX4_back_35 : decode cX4_back 35 = .ok (.ireturn, 1) := by decide +kernel
theorem dX4_left_0 : decode cX4_left 0 = .ok (.iload_n 1, 1) := by decide +kernel
theorem dX4_left_1 : decode cX4_left 1 = .ok (.ifCond .lt 25, 3) := by decide +kernel
theorem dX4_left_4 : decode cX4_left 4 = .ok (.iload_n 1, 1) := by decide +kernel
theorem dX4_left_5 : decode cX4_left 5 = .ok (.aload_n 0, 1) := by decide +kernel
theorem dX4_left_6 : decode cX4_left 6 = .ok (.getfield 26, 3) := by decide +kernel
theorem dX4_left_9 : decode cX4_left 9 = .ok (.getfield 163, 3) := by decide +kernel
theorem dX4_left_12 : decode cX4_left 12 = .ok (.if_icmp .ge 14, 3) := by decide +kernel
theorem dX4_left_15 : decode cX4_left 15 = .ok (.aload_n 0, 1) := by decide +kernel
theorem dX4_left_16 : decode cX4_left 16 = .ok (.getfield 19, 3) := by decide +kernel
theorem dX4_left_19 : decode cX4_left 19 = .ok (.iload_n 2, 1) := by decide +kernel
theorem dX4_left_20 : decode cX4_left 20 = .ok (.invokevirtual 118, 3) := by decide +kernel
theorem dX4_left_23 : decode cX4_left 23 = .ok (.ifCond .ne 5, 3) := by decide +kernel
theorem dX4_left_26 : decode cX4_left 26 = .ok (.iconst (-1), 1) := by decide +kernel
theorem dX4_left_27 : decode cX4_left 27 = .ok (.ireturn, 1) := by decide +kernel
theorem dX4_left_28 : decode cX4_left 28 = .ok (.aload_n 0, 1) := by decide +kernel
theorem dX4_left_29 : decode cX4_left 29 = .ok (.getfield 26, 3) := by decide +kernel
theorem dX4_left_32 : decode cX4_left 32 = .ok (.iload_n 1, 1) := by decide +kernel
theorem dX4_left_33 : decode cX4_left 33 = .ok (.invokevirtual 178, 3) := by decide +kernel
theorem dX4_left_36 : decode cX4_left 36 = .ok (.iload_n 2, 1) := by decide +kernel
theorem dX4_left_37 : decode cX4_left 37 = .ok (.invokestatic 128, 3) := by decide +kernel
theorem dX4_left_40 : decode cX4_left 40 = .ok (.ireturn, 1) := by decide +kernel
theorem dX4_best_0 : decode cX4_best 0 = .ok (.aload_n 0, 1) := by decide +kernel
theorem dX4_best_1 : decode cX4_best 1 = .ok (.getfield 39, 3) := by decide +kernel
theorem dX4_best_4 : decode cX4_best 4 = .ok (.aload_n 0, 1) := by decide +kernel
theorem dX4_best_5 : decode cX4_best 5 = .ok (.getfield 19, 3) := by decide +kernel
theorem dX4_best_8 : decode cX4_best 8 = .ok (.aload_n 0, 1) := by decide +kernel
theorem dX4_best_9 : decode cX4_best 9 = .ok (.getfield 26, 3) := by decide +kernel
theorem dX4_best_12 : decode cX4_best 12 = .ok (.invokevirtual 181, 3) := by decide +kernel
theorem dX4_best_15 : decode cX4_best 15 = .ok (.aload_n 0, 1) := by decide +kernel
theorem dX4_best_16 : decode cX4_best 16 = .ok (.getfield 39, 3) := by decide +kernel
theorem dX4_best_19 : decode cX4_best 19 = .ok (.invokevirtual 185, 3) := by decide +kernel
theorem dX4_best_22 : decode cX4_best 22 = .ok (.ifCond .eq 13, 3) := by decide +kernel
theorem dX4_best_25 : decode cX4_best 25 = .ok (.aload_n 0, 1) := by decide +kernel
theorem dX4_best_26 : decode cX4_best 26 = .ok (.getfield 39, 3) := by decide +kernel
theorem dX4_best_29 : decode cX4_best 29 = .ok (.invokevirtual 189, 3) := by decide +kernel
theorem dX4_best_32 : decode cX4_best 32 = .ok (.goto 5, 3) := by decide +kernel
theorem dX4_best_35 : decode cX4_best 35 = .ok (.bipush (-9), 2) := by decide +kernel
theorem dX4_best_37 : decode cX4_best 37 = .ok (.ireturn, 1) := by decide +kernel
theorem dX4_bestAt_0 : decode cX4_bestAt 0 = .ok (.aload_n 0, 1) := by decide +kernel
theorem dX4_bestAt_1 : decode cX4_bestAt 1 = .ok (.getfield 19, 3) := by decide +kernel
theorem dX4_bestAt_4 : decode cX4_bestAt 4 = .ok (.iload_n 1, 1) := by decide +kernel
theorem dX4_bestAt_5 : decode cX4_bestAt 5 = .ok (.invokevirtual 91, 3) := by decide +kernel
theorem dX4_bestAt_8 : decode cX4_bestAt 8 = .ok (.ifCond .ne 5, 3) := by decide +kernel
theorem dX4_bestAt_11 : decode cX4_bestAt 11 = .ok (.iconst (-1), 1) := by decide +kernel
theorem dX4_bestAt_12 : decode cX4_bestAt 12 = .ok (.ireturn, 1) := by decide +kernel
theorem dX4_bestAt_13 : decode cX4_bestAt 13 = .ok (.aload_n 0, 1) := by decide +kernel
theorem dX4_bestAt_14 : decode cX4_bestAt 14 = .ok (.getfield 39, 3) := by decide +kernel
theorem dX4_bestAt_17 : decode cX4_bestAt 17 = .ok (.aload_n 0, 1) := by decide +kernel
theorem dX4_bestAt_18 : decode cX4_bestAt 18 = .ok (.getfield 19, 3) := by decide +kernel
theorem dX4_bestAt_21 : decode cX4_bestAt 21 = .ok (.aload_n 0, 1) := by decide +kernel
theorem dX4_bestAt_22 : decode cX4_bestAt 22 = .ok (.getfield 26, 3) := by decide +kernel
theorem dX4_bestAt_25 : decode cX4_bestAt 25 = .ok (.invokevirtual 181, 3) := by decide +kernel
theorem dX4_bestAt_28 : decode cX4_bestAt 28 = .ok (.aload_n 0, 1) := by decide +kernel
theorem dX4_bestAt_29 : decode cX4_bestAt 29 = .ok (.getfield 39, 3) := by decide +kernel
theorem dX4_bestAt_32 : decode cX4_bestAt 32 = .ok (.getfield 192, 3) := by decide +kernel
theorem dX4_bestAt_35 : decode cX4_bestAt 35 = .ok (.iload_n 1, 1) := by decide +kernel
theorem dX4_bestAt_36 : decode cX4_bestAt 36 = .ok (.invokestatic 145, 3) := by decide +kernel
theorem dX4_bestAt_39 : decode cX4_bestAt 39 = .ok (.ireturn, 1) := by decide +kernel
theorem dX4_worth_0 : decode cX4_worth 0 = .ok (.aload_n 0, 1) := by decide +kernel
theorem dX4_worth_1 : decode cX4_worth 1 = .ok (.getfield 19, 3) := by decide +kernel
theorem dX4_worth_4 : decode cX4_worth 4 = .ok (.iload_n 1, 1) := by decide +kernel
theorem dX4_worth_5 : decode cX4_worth 5 = .ok (.invokevirtual 91, 3) := by decide +kernel
theorem dX4_worth_8 : decode cX4_worth 8 = .ok (.ifCond .ne 5, 3) := by decide +kernel
theorem dX4_worth_11 : decode cX4_worth 11 = .ok (.iconst (-1), 1) := by decide +kernel
theorem dX4_worth_12 : decode cX4_worth 12 = .ok (.ireturn, 1) := by decide +kernel
theorem dX4_worth_13 : decode cX4_worth 13 = .ok (.aload_n 0, 1) := by decide +kernel
theorem dX4_worth_14 : decode cX4_worth 14 = .ok (.getfield 26, 3) := by decide +kernel
theorem dX4_worth_17 : decode cX4_worth 17 = .ok (.iload_n 1, 1) := by decide +kernel
theorem dX4_worth_18 : decode cX4_worth 18 = .ok (.invokevirtual 111, 3) := by decide +kernel
theorem dX4_worth_21 : decode cX4_worth 21 = .ok (.bipush 20, 2) := by decide +kernel
theorem dX4_worth_23 : decode cX4_worth 23 = .ok (.if_icmp .ne 6, 3) := by decide +kernel
theorem dX4_worth_26 : decode cX4_worth 26 = .ok (.bipush (-3), 2) := by decide +kernel
theorem dX4_worth_28 : decode cX4_worth 28 = .ok (.ireturn, 1) := by decide +kernel
theorem dX4_worth_29 : decode cX4_worth 29 = .ok (.aload_n 0, 1) := by decide +kernel
theorem dX4_worth_30 : decode cX4_worth 30 = .ok (.getfield 39, 3) := by decide +kernel
theorem dX4_worth_33 : decode cX4_worth 33 = .ok (.aload_n 0, 1) := by decide +kernel
theorem dX4_worth_34 : decode cX4_worth 34 = .ok (.getfield 19, 3) := by decide +kernel
theorem dX4_worth_37 : decode cX4_worth 37 = .ok (.aload_n 0, 1) := by decide +kernel
theorem dX4_worth_38 : decode cX4_worth 38 = .ok (.getfield 26, 3) := by decide +kernel
theorem dX4_worth_41 : decode cX4_worth 41 = .ok (.invokevirtual 181, 3) := by decide +kernel
theorem dX4_worth_44 : decode cX4_worth 44 = .ok (.aload_n 0, 1) := by decide +kernel
theorem dX4_worth_45 : decode cX4_worth 45 = .ok (.getfield 39, 3) := by decide +kernel
theorem dX4_worth_48 : decode cX4_worth 48 = .ok (.invokevirtual 189, 3) := by decide +kernel
theorem dX4_worth_51 : decode cX4_worth 51 = .ok (.aload_n 0, 1) := by decide +kernel
theorem dX4_worth_52 : decode cX4_worth 52 = .ok (.getfield 39, 3) := by decide +kernel
theorem dX4_worth_55 : decode cX4_worth 55 = .ok (.iload_n 1, 1) := by decide +kernel
theorem dX4_worth_56 : decode cX4_worth 56 = .ok (.invokevirtual 195, 3) := by decide +kernel
theorem dX4_worth_59 : decode cX4_worth 59 = .ok (.isub, 1) := by decide +kernel
theorem dX4_worth_60 : decode cX4_worth 60 = .ok (.ireturn, 1) := by decide +kernel
theorem dX4_makes_0 : decode cX4_makes 0 = .ok (.iload_n 1, 1) := by decide +kernel
theorem dX4_makes_1 : decode cX4_makes 1 = .ok (.iconst 1, 1) := by decide +kernel
theorem dX4_makes_2 : decode cX4_makes 2 = .ok (.if_icmp .lt 9, 3) := by decide +kernel
theorem dX4_makes_5 : decode cX4_makes 5 = .ok (.iload_n 1, 1) := by decide +kernel
theorem dX4_makes_6 : decode cX4_makes 6 = .ok (.bipush 99, 2) := by decide +kernel
theorem dX4_makes_8 : decode cX4_makes 8 = .ok (.if_icmp .le 6, 3) := by decide +kernel
theorem dX4_makes_11 : decode cX4_makes 11 = .ok (.bipush (-2), 2) := by decide +kernel
theorem dX4_makes_13 : decode cX4_makes 13 = .ok (.ireturn, 1) := by decide +kernel
theorem dX4_makes_14 : decode cX4_makes 14 = .ok (.aload_n 0, 1) := by decide +kernel
theorem dX4_makes_15 : decode cX4_makes 15 = .ok (.getfield 39, 3) := by decide +kernel
theorem dX4_makes_18 : decode cX4_makes 18 = .ok (.aload_n 0, 1) := by decide +kernel
theorem dX4_makes_19 : decode cX4_makes 19 = .ok (.getfield 19, 3) := by decide +kernel
theorem dX4_makes_22 : decode cX4_makes 22 = .ok (.aload_n 0, 1) := by decide +kernel
theorem dX4_makes_23 : decode cX4_makes 23 = .ok (.getfield 26, 3) := by decide +kernel
theorem dX4_makes_26 : decode cX4_makes 26 = .ok (.invokevirtual 181, 3) := by decide +kernel
theorem dX4_makes_29 : decode cX4_makes 29 = .ok (.aload_n 0, 1) := by decide +kernel
theorem dX4_makes_30 : decode cX4_makes 30 = .ok (.getfield 39, 3) := by decide +kernel
theorem dX4_makes_33 : decode cX4_makes 33 = .ok (.invokevirtual 198, 3) := by decide +kernel
theorem dX4_makes_36 : decode cX4_makes 36 = .ok (.aload_n 0, 1) := by decide +kernel
theorem dX4_makes_37 : decode cX4_makes 37 = .ok (.getfield 39, 3) := by decide +kernel
theorem dX4_makes_40 : decode cX4_makes 40 = .ok (.iload_n 1, 1) := by decide +kernel
theorem dX4_makes_41 : decode cX4_makes 41 = .ok (.invokevirtual 201, 3) := by decide +kernel
theorem dX4_makes_44 : decode cX4_makes 44 = .ok (.ireturn, 1) := by decide +kernel
theorem dX4_bestMakes_0 : decode cX4_bestMakes 0 = .ok (.aload_n 0, 1) := by decide +kernel
theorem dX4_bestMakes_1 : decode cX4_bestMakes 1 = .ok (.getfield 39, 3) := by decide +kernel
theorem dX4_bestMakes_4 : decode cX4_bestMakes 4 = .ok (.aload_n 0, 1) := by decide +kernel
theorem dX4_bestMakes_5 : decode cX4_bestMakes 5 = .ok (.getfield 19, 3) := by decide +kernel
theorem dX4_bestMakes_8 : decode cX4_bestMakes 8 = .ok (.aload_n 0, 1) := by decide +kernel
theorem dX4_bestMakes_9 : decode cX4_bestMakes 9 = .ok (.getfield 26, 3) := by decide +kernel
theorem dX4_bestMakes_12 : decode cX4_bestMakes 12 = .ok (.invokevirtual 181, 3) := by decide +kernel
theorem dX4_bestMakes_15 : decode cX4_bestMakes 15 = .ok (.aload_n 0, 1) := by decide +kernel
theorem dX4_bestMakes_16 : decode cX4_bestMakes 16 = .ok (.getfield 39, 3) := by decide +kernel
theorem dX4_bestMakes_19 : decode cX4_bestMakes 19 = .ok (.invokevirtual 198, 3) := by decide +kernel
theorem dX4_bestMakes_22 : decode cX4_bestMakes 22 = .ok (.aload_n 0, 1) := by decide +kernel
theorem dX4_bestMakes_23 : decode cX4_bestMakes 23 = .ok (.getfield 39, 3) := by decide +kernel
theorem dX4_bestMakes_26 : decode cX4_bestMakes 26 = .ok (.invokevirtual 204, 3) := by decide +kernel
theorem dX4_bestMakes_29 : decode cX4_bestMakes 29 = .ok (.ireturn, 1) := by decide +kernel
theorem dX4_sets_0 : decode cX4_sets 0 = .ok (.aload_n 0, 1) := by decide +kernel
theorem dX4_sets_1 : decode cX4_sets 1 = .ok (.getfield 39, 3) := by decide +kernel
theorem dX4_sets_4 : decode cX4_sets 4 = .ok (.aload_n 0, 1) := by decide +kernel
theorem dX4_sets_5 : decode cX4_sets 5 = .ok (.getfield 19, 3) := by decide +kernel
theorem dX4_sets_8 : decode cX4_sets 8 = .ok (.aload_n 0, 1) := by decide +kernel
theorem dX4_sets_9 : decode cX4_sets 9 = .ok (.getfield 26, 3) := by decide +kernel
theorem dX4_sets_12 : decode cX4_sets 12 = .ok (.invokevirtual 181, 3) := by decide +kernel
theorem dX4_sets_15 : decode cX4_sets 15 = .ok (.aload_n 0, 1) := by decide +kernel
theorem dX4_sets_16 : decode cX4_sets 16 = .ok (.getfield 39, 3) := by decide +kernel
theorem dX4_sets_19 : decode cX4_sets 19 = .ok (.invokevirtual 207, 3) := by decide +kernel
theorem dX4_sets_22 : decode cX4_sets 22 = .ok (.ireturn, 1) := by decide +kernel
theorem dX4_crossings_0 : decode cX4_crossings 0 = .ok (.iload_n 1, 1) := by decide +kernel
theorem dX4_crossings_1 : decode cX4_crossings 1 = .ok (.iconst 1, 1) := by decide +kernel
theorem dX4_crossings_2 : decode cX4_crossings 2 = .ok (.if_icmp .lt 8, 3) := by decide +kernel
theorem dX4_crossings_5 : decode cX4_crossings 5 = .ok (.iload_n 1, 1) := by decide +kernel
theorem dX4_crossings_6 : decode cX4_crossings 6 = .ok (.iconst 4, 1) := by decide +kernel
theorem dX4_crossings_7 : decode cX4_crossings 7 = .ok (.if_icmp .le 6, 3) := by decide +kernel
theorem dX4_crossings_10 : decode cX4_crossings 10 = .ok (.bipush (-2), 2) := by decide +kernel
theorem dX4_crossings_12 : decode cX4_crossings 12 = .ok (.ireturn, 1) := by decide +kernel
theorem dX4_crossings_13 : decode cX4_crossings 13 = .ok (.aload_n 0, 1) := by decide +kernel
theorem dX4_crossings_14 : decode cX4_crossings 14 = .ok (.getfield 39, 3) := by decide +kernel
theorem dX4_crossings_17 : decode cX4_crossings 17 = .ok (.aload_n 0, 1) := by decide +kernel
theorem dX4_crossings_18 : decode cX4_crossings 18 = .ok (.getfield 19, 3) := by decide +kernel
theorem dX4_crossings_21 : decode cX4_crossings 21 = .ok (.aload_n 0, 1) := by decide +kernel
theorem dX4_crossings_22 : decode cX4_crossings 22 = .ok (.getfield 26, 3) := by decide +kernel
theorem dX4_crossings_25 : decode cX4_crossings 25 = .ok (.invokevirtual 181, 3) := by decide +kernel
theorem dX4_crossings_28 : decode cX4_crossings 28 = .ok (.aload_n 0, 1) := by decide +kernel
theorem dX4_crossings_29 : decode cX4_crossings 29 = .ok (.getfield 39, 3) := by decide +kernel
theorem dX4_crossings_32 : decode cX4_crossings 32 = .ok (.invokevirtual 210, 3) := by decide +kernel
theorem dX4_crossings_35 : decode cX4_crossings 35 = .ok (.aload_n 0, 1) := by decide +kernel
theorem dX4_crossings_36 : decode cX4_crossings 36 = .ok (.getfield 39, 3) := by decide +kernel
theorem dX4_crossings_39 : decode cX4_crossings 39 = .ok (.iload_n 1, 1) := by decide +kernel
theorem dX4_crossings_40 : decode cX4_crossings 40 = .ok (.invokevirtual 213, 3) := by decide +kernel
theorem dX4_crossings_43 : decode cX4_crossings 43 = .ok (.ireturn, 1) := by decide +kernel
theorem dX4_all_0 : decode cX4_all 0 = .ok (.aload_n 0, 1) := by decide +kernel
theorem dX4_all_1 : decode cX4_all 1 = .ok (.getfield 39, 3) := by decide +kernel
theorem dX4_all_4 : decode cX4_all 4 = .ok (.aload_n 0, 1) := by decide +kernel
theorem dX4_all_5 : decode cX4_all 5 = .ok (.getfield 19, 3) := by decide +kernel
theorem dX4_all_8 : decode cX4_all 8 = .ok (.aload_n 0, 1) := by decide +kernel
theorem dX4_all_9 : decode cX4_all 9 = .ok (.getfield 26, 3) := by decide +kernel
theorem dX4_all_12 : decode cX4_all 12 = .ok (.invokevirtual 181, 3) := by decide +kernel
theorem dX4_all_15 : decode cX4_all 15 = .ok (.aload_n 0, 1) := by decide +kernel
theorem dX4_all_16 : decode cX4_all 16 = .ok (.getfield 39, 3) := by decide +kernel
theorem dX4_all_19 : decode cX4_all 19 = .ok (.invokevirtual 210, 3) := by decide +kernel
theorem dX4_all_22 : decode cX4_all 22 = .ok (.aload_n 0, 1) := by decide +kernel
theorem dX4_all_23 : decode cX4_all 23 = .ok (.getfield 39, 3) := by decide +kernel
theorem dX4_all_26 : decode cX4_all 26 = .ok (.invokevirtual 216, 3) := by decide +kernel
theorem dX4_all_29 : decode cX4_all 29 = .ok (.ireturn, 1) := by decide +kernel
theorem dX4_rule_0 : decode cX4_rule 0 = .ok (.aload_n 0, 1) := by decide +kernel
theorem dX4_rule_1 : decode cX4_rule 1 = .ok (.invokevirtual 219, 3) := by decide +kernel
theorem dX4_rule_4 : decode cX4_rule 4 = .ok (.istore_n 1, 1) := by decide +kernel
theorem dX4_rule_5 : decode cX4_rule 5 = .ok (.aload_n 0, 1) := by decide +kernel
theorem dX4_rule_6 : decode cX4_rule 6 = .ok (.getfield 19, 3) := by decide +kernel
theorem dX4_rule_9 : decode cX4_rule 9 = .ok (.iload_n 1, 1) := by decide +kernel
theorem dX4_rule_10 : decode cX4_rule 10 = .ok (.aload_n 0, 1) := by decide +kernel
theorem dX4_rule_11 : decode cX4_rule 11 = .ok (.getfield 19, 3) := by decide +kernel
theorem dX4_rule_14 : decode cX4_rule 14 = .ok (.getfield 95, 3) := by decide +kernel
theorem dX4_rule_17 : decode cX4_rule 17 = .ok (.aload_n 0, 1) := by decide +kernel
theorem dX4_rule_18 : decode cX4_rule 18 = .ok (.getfield 26, 3) := by decide +kernel
theorem dX4_rule_21 : decode cX4_rule 21 = .ok (.invokevirtual 159, 3) := by decide +kernel
theorem dX4_rule_24 : decode cX4_rule 24 = .ok (.ifCond .eq 17, 3) := by decide +kernel
theorem dX4_rule_27 : decode cX4_rule 27 = .ok (.aload_n 0, 1) := by decide +kernel
theorem dX4_rule_28 : decode cX4_rule 28 = .ok (.getfield 19, 3) := by decide +kernel
theorem dX4_rule_31 : decode cX4_rule 31 = .ok (.iload_n 1, 1) := by decide +kernel
theorem dX4_rule_32 : decode cX4_rule 32 = .ok (.invokestatic 169, 3) := by decide +kernel
theorem dX4_rule_35 : decode cX4_rule 35 = .ok (.invokevirtual 172, 3) := by decide +kernel
theorem dX4_rule_38 : decode cX4_rule 38 = .ok (.goto 4, 3) := by decide +kernel
theorem dX4_rule_41 : decode cX4_rule 41 = .ok (.iconst 0, 1) := by decide +kernel
theorem dX4_rule_42 : decode cX4_rule 42 = .ok (.ireturn, 1) := by decide +kernel
theorem dX4_ruleAt_0 : decode cX4_ruleAt 0 = .ok (.aload_n 0, 1) := by decide +kernel
theorem dX4_ruleAt_1 : decode cX4_ruleAt 1 = .ok (.getfield 19, 3) := by decide +kernel
theorem dX4_ruleAt_4 : decode cX4_ruleAt 4 = .ok (.iload_n 1, 1) := by decide +kernel
theorem dX4_ruleAt_5 : decode cX4_ruleAt 5 = .ok (.invokevirtual 91, 3) := by decide +kernel
theorem dX4_ruleAt_8 : decode cX4_ruleAt 8 = .ok (.ifCond .ne 5, 3) := by decide +kernel
theorem dX4_ruleAt_11 : decode cX4_ruleAt 11 = .ok (.iconst (-1), 1) := by decide +kernel
theorem dX4_ruleAt_12 : decode cX4_ruleAt 12 = .ok (.ireturn, 1) := by decide +kernel
theorem dX4_ruleAt_13 : decode cX4_ruleAt 13 = .ok (.aload_n 0, 1) := by decide +kernel
theorem dX4_ruleAt_14 : decode cX4_ruleAt 14 = .ok (.invokevirtual 219, 3) := by decide +kernel
theorem dX4_ruleAt_17 : decode cX4_ruleAt 17 = .ok (.iload_n 1, 1) := by decide +kernel
theorem dX4_ruleAt_18 : decode cX4_ruleAt 18 = .ok (.invokestatic 145, 3) := by decide +kernel
theorem dX4_ruleAt_21 : decode cX4_ruleAt 21 = .ok (.ireturn, 1) := by decide +kernel
theorem dX4_claim_0 : decode cX4_claim 0 = .ok (.aload_n 0, 1) := by decide +kernel
theorem dX4_claim_1 : decode cX4_claim 1 = .ok (.getfield 19, 3) := by decide +kernel
theorem dX4_claim_4 : decode cX4_claim 4 = .ok (.iload_n 1, 1) := by decide +kernel
theorem dX4_claim_5 : decode cX4_claim 5 = .ok (.invokevirtual 91, 3) := by decide +kernel
theorem dX4_claim_8 : decode cX4_claim 8 = .ok (.ifCond .ne 5, 3) := by decide +kernel
theorem dX4_claim_11 : decode cX4_claim 11 = .ok (.iconst (-1), 1) := by decide +kernel
theorem dX4_claim_12 : decode cX4_claim 12 = .ok (.ireturn, 1) := by decide +kernel
theorem dX4_claim_13 : decode cX4_claim 13 = .ok (.iload_n 2, 1) := by decide +kernel
theorem dX4_claim_14 : decode cX4_claim 14 = .ok (.iconst 1, 1) := by decide +kernel
theorem dX4_claim_15 : decode cX4_claim 15 = .ok (.if_icmp .lt 9, 3) := by decide +kernel
theorem dX4_claim_18 : decode cX4_claim 18 = .ok (.iload_n 2, 1) := by decide +kernel
theorem dX4_claim_19 : decode cX4_claim 19 = .ok (.bipush 99, 2) := by decide +kernel
theorem dX4_claim_21 : decode cX4_claim 21 = .ok (.if_icmp .le 6, 3) := by decide +kernel
theorem dX4_claim_24 : decode cX4_claim 24 = .ok (.bipush (-2), 2) := by decide +kernel
theorem dX4_claim_26 : decode cX4_claim 26 = .ok (.ireturn, 1) := by decide +kernel
theorem dX4_claim_27 : decode cX4_claim 27 = .ok (.aload_n 0, 1) := by decide +kernel
theorem dX4_claim_28 : decode cX4_claim 28 = .ok (.getfield 26, 3) := by decide +kernel
theorem dX4_claim_31 : decode cX4_claim 31 = .ok (.getfield 108, 3) := by decide +kernel
theorem dX4_claim_34 : decode cX4_claim 34 = .ok (.iload_n 1, 1) := by decide +kernel
theorem dX4_claim_35 : decode cX4_claim 35 = .ok (.iaload, 1) := by decide +kernel
theorem dX4_claim_36 : decode cX4_claim 36 = .ok (.istore_n 3, 1) := by decide +kernel
theorem dX4_claim_37 : decode cX4_claim 37 = .ok (.aload_n 0, 1) := by decide +kernel
theorem dX4_claim_38 : decode cX4_claim 38 = .ok (.getfield 26, 3) := by decide +kernel
theorem dX4_claim_41 : decode cX4_claim 41 = .ok (.getfield 108, 3) := by decide +kernel
theorem dX4_claim_44 : decode cX4_claim 44 = .ok (.iload_n 1, 1) := by decide +kernel
theorem dX4_claim_45 : decode cX4_claim 45 = .ok (.iload_n 2, 1) := by decide +kernel
theorem dX4_claim_46 : decode cX4_claim 46 = .ok (.iastore, 1) := by decide +kernel
theorem dX4_claim_47 : decode cX4_claim 47 = .ok (.iload_n 3, 1) := by decide +kernel
theorem dX4_claim_48 : decode cX4_claim 48 = .ok (.ireturn, 1) := by decide +kernel
theorem dX4_fits_0 : decode cX4_fits 0 = .ok (.aload_n 0, 1) := by decide +kernel
theorem dX4_fits_1 : decode cX4_fits 1 = .ok (.bipush (-9), 2) := by decide +kernel
theorem dX4_fits_3 : decode cX4_fits 3 = .ok (.invokevirtual 222, 3) := by decide +kernel
theorem dX4_fits_6 : decode cX4_fits 6 = .ok (.ifCond .eq 7, 3) := by decide +kernel
theorem dX4_fits_9 : decode cX4_fits 9 = .ok (.iconst 1, 1) := by decide +kernel
theorem dX4_fits_10 : decode cX4_fits 10 = .ok (.goto 4, 3) := by decide +kernel
theorem dX4_fits_13 : decode cX4_fits 13 = .ok (.iconst 0, 1) := by decide +kernel
theorem dX4_fits_14 : decode cX4_fits 14 = .ok (.ireturn, 1) := by decide +kernel
theorem dX4_liars_0 : decode cX4_liars 0 = .ok (.aload_n 0, 1) := by decide +kernel
theorem dX4_liars_1 : decode cX4_liars 1 = .ok (.bipush (-9), 2) := by decide +kernel
theorem dX4_liars_3 : decode cX4_liars 3 = .ok (.invokevirtual 222, 3) := by decide +kernel
theorem dX4_liars_6 : decode cX4_liars 6 = .ok (.ifCond .eq 5, 3) := by decide +kernel
theorem dX4_liars_9 : decode cX4_liars 9 = .ok (.iconst 0, 1) := by decide +kernel
theorem dX4_liars_10 : decode cX4_liars 10 = .ok (.ireturn, 1) := by decide +kernel
theorem dX4_liars_11 : decode cX4_liars 11 = .ok (.iconst 0, 1) := by decide +kernel
theorem dX4_liars_12 : decode cX4_liars 12 = .ok (.istore_n 1, 1) := by decide +kernel
theorem dX4_liars_13 : decode cX4_liars 13 = .ok (.iconst 0, 1) := by decide +kernel
theorem dX4_liars_14 : decode cX4_liars 14 = .ok (.istore_n 2, 1) := by decide +kernel
theorem dX4_liars_15 : decode cX4_liars 15 = .ok (.iload_n 2, 1) := by decide +kernel
theorem dX4_liars_16 : decode cX4_liars 16 = .ok (.aload_n 0, 1) := by decide +kernel
theorem dX4_liars_17 : decode cX4_liars 17 = .ok (.getfield 19, 3) := by decide +kernel
theorem dX4_liars_20 : decode cX4_liars 20 = .ok (.getfield 70, 3) := by decide +kernel
theorem dX4_liars_23 : decode cX4_liars 23 = .ok (.if_icmp .ge 23, 3) := by decide +kernel
theorem dX4_liars_26 : decode cX4_liars 26 = .ok (.aload_n 0, 1) := by decide +kernel
theorem dX4_liars_27 : decode cX4_liars 27 = .ok (.iload_n 2, 1) := by decide +kernel
theorem dX4_liars_28 : decode cX4_liars 28 = .ok (.invokevirtual 225, 3) := by decide +kernel
theorem dX4_liars_31 : decode cX4_liars 31 = .ok (.ifCond .le 9, 3) := by decide +kernel
theorem dX4_liars_34 : decode cX4_liars 34 = .ok (.iload_n 1, 1) := by decide +kernel
theorem dX4_liars_35 : decode cX4_liars 35 = .ok (.iconst 1, 1) := by decide +kernel
theorem dX4_liars_36 : decode cX4_liars 36 = .ok (.iload_n 2, 1) := by decide +kernel
theorem dX4_liars_37 : decode cX4_liars 37 = .ok (.ishl, 1) := by decide +kernel
theorem dX4_liars_38 : decode cX4_liars 38 = .ok (.ior, 1) := by decide +kernel
theorem dX4_liars_39 : decode cX4_liars 39 = .ok (.istore_n 1, 1) := by decide +kernel
theorem dX4_liars_40 : decode cX4_liars 40 = .ok (.iinc 2 1, 3) := by decide +kernel
theorem dX4_liars_43 : decode cX4_liars 43 = .ok (.goto (-28), 3) := by decide +kernel
theorem dX4_liars_46 : decode cX4_liars 46 = .ok (.iload_n 1, 1) := by decide +kernel
theorem dX4_liars_47 : decode cX4_liars 47 = .ok (.ireturn, 1) := by decide +kernel
theorem dX4_mayWeigh_0 : decode cX4_mayWeigh 0 = .ok (.aload_n 0, 1) := by decide +kernel
theorem dX4_mayWeigh_1 : decode cX4_mayWeigh 1 = .ok (.getfield 19, 3) := by decide +kernel
theorem dX4_mayWeigh_4 : decode cX4_mayWeigh 4 = .ok (.iload_n 1, 1) := by decide +kernel
theorem dX4_mayWeigh_5 : decode cX4_mayWeigh 5 = .ok (.invokevirtual 91, 3) := by decide +kernel
theorem dX4_mayWeigh_8 : decode cX4_mayWeigh 8 = .ok (.ifCond .ne 5, 3) := by decide +kernel
theorem dX4_mayWeigh_11 : decode cX4_mayWeigh 11 = .ok (.iconst (-1), 1) := by decide +kernel
theorem dX4_mayWeigh_12 : decode cX4_mayWeigh 12 = .ok (.ireturn, 1) := by decide +kernel
theorem dX4_mayWeigh_13 : decode cX4_mayWeigh 13 = .ok (.aload_n 0, 1) := by decide +kernel
theorem dX4_mayWeigh_14 : decode cX4_mayWeigh 14 = .ok (.iload_n 1, 1) := by decide +kernel
theorem dX4_mayWeigh_15 : decode cX4_mayWeigh 15 = .ok (.invokevirtual 225, 3) := by decide +kernel
theorem dX4_mayWeigh_18 : decode cX4_mayWeigh 18 = .ok (.ireturn, 1) := by decide +kernel
theorem dX4_keep_0 : decode cX4_keep 0 = .ok (.iload_n 1, 1) := by decide +kernel
theorem dX4_keep_1 : decode cX4_keep 1 = .ok (.invokestatic 228, 3) := by decide +kernel
theorem dX4_keep_4 : decode cX4_keep 4 = .ok (.ifCond .ne 5, 3) := by decide +kernel
theorem dX4_keep_7 : decode cX4_keep 7 = .ok (.iconst (-1), 1) := by decide +kernel
theorem dX4_keep_8 : decode cX4_keep 8 = .ok (.ireturn, 1) := by decide +kernel
theorem dX4_keep_9 : decode cX4_keep 9 = .ok (.aload_n 0, 1) := by decide +kernel
theorem dX4_keep_10 : decode cX4_keep 10 = .ok (.iload_n 1, 1) := by decide +kernel
theorem dX4_keep_11 : decode cX4_keep 11 = .ok (.invokevirtual 231, 3) := by decide +kernel
theorem dX4_keep_14 : decode cX4_keep 14 = .ok (.astore_n 2, 1) := by decide +kernel
theorem dX4_keep_15 : decode cX4_keep 15 = .ok (.aload_n 2, 1) := by decide +kernel
theorem dX4_keep_16 : decode cX4_keep 16 = .ok (.aload_n 0, 1) := by decide +kernel
theorem dX4_keep_17 : decode cX4_keep 17 = .ok (.getfield 26, 3) := by decide +kernel
theorem dX4_keep_20 : decode cX4_keep 20 = .ok (.invokevirtual 235, 3) := by decide +kernel
theorem dX4_keep_23 : decode cX4_keep 23 = .ok (.aload_n 2, 1) := by decide +kernel
theorem dX4_keep_24 : decode cX4_keep 24 = .ok (.iconst 1, 1) := by decide +kernel
theorem dX4_keep_25 : decode cX4_keep 25 = .ok (.putfield 63, 3) := by decide +kernel
theorem dX4_keep_28 : decode cX4_keep 28 = .ok (.aload_n 0, 1) := by decide +kernel
theorem dX4_keep_29 : decode cX4_keep 29 = .ok (.getfield 26, 3) := by decide +kernel
theorem dX4_keep_32 : decode cX4_keep 32 = .ok (.getfield 163, 3) := by decide +kernel
theorem dX4_keep_35 : decode cX4_keep 35 = .ok (.ireturn, 1) := by decide +kernel
theorem dX4_again_0 : decode cX4_again 0 = .ok (.iload_n 1, 1) := by decide +kernel
theorem dX4_again_1 : decode cX4_again 1 = .ok (.invokestatic 228, 3) := by decide +kernel
theorem dX4_again_4 : decode cX4_again 4 = .ok (.ifCond .ne 5, 3) := by decide +kernel
theorem dX4_again_7 : decode cX4_again 7 = .ok (.iconst (-1), 1) := by decide +kernel
theorem dX4_again_8 : decode cX4_again 8 = .ok (.ireturn, 1) := by decide +kernel
theorem dX4_again_9 : decode cX4_again 9 = .ok (.aload_n 0, 1) := by decide +kernel
theorem dX4_again_10 : decode cX4_again 10 = .ok (.iload_n 1, 1) := by decide +kernel
theorem dX4_again_11 : decode cX4_again 11 = .ok (.invokevirtual 231, 3) := by decide +kernel
theorem dX4_again_14 : decode cX4_again 14 = .ok (.astore_n 2, 1) := by decide +kernel
theorem dX4_again_15 : decode cX4_again 15 = .ok (.aload_n 2, 1) := by decide +kernel
theorem dX4_again_16 : decode cX4_again 16 = .ok (.getfield 63, 3) := by decide +kernel
theorem dX4_again_19 : decode cX4_again 19 = .ok (.ifCond .ne 6, 3) := by decide +kernel
theorem dX4_again_22 : decode cX4_again 22 = .ok (.bipush (-3), 2) := by decide +kernel
theorem dX4_again_24 : decode cX4_again 24 = .ok (.ireturn, 1) := by decide +kernel
theorem dX4_again_25 : decode cX4_again 25 = .ok (.aload_n 0, 1) := by decide +kernel
theorem dX4_again_26 : decode cX4_again 26 = .ok (.getfield 26, 3) := by decide +kernel
theorem dX4_again_29 : decode cX4_again 29 = .ok (.aload_n 2, 1) := by decide +kernel
theorem dX4_again_30 : decode cX4_again 30 = .ok (.invokevirtual 235, 3) := by decide +kernel
theorem dX4_again_33 : decode cX4_again 33 = .ok (.aload_n 0, 1) := by decide +kernel
theorem dX4_again_34 : decode cX4_again 34 = .ok (.getfield 39, 3) := by decide +kernel
theorem dX4_again_37 : decode cX4_again 37 = .ok (.invokevirtual 67, 3) := by decide +kernel
theorem dX4_again_40 : decode cX4_again 40 = .ok (.aload_n 0, 1) := by decide +kernel
theorem dX4_again_41 : decode cX4_again 41 = .ok (.getfield 26, 3) := by decide +kernel
theorem dX4_again_44 : decode cX4_again 44 = .ok (.getfield 163, 3) := by decide +kernel
theorem dX4_again_47 : decode cX4_again 47 = .ok (.ireturn, 1) := by decide +kernel
theorem dX4_count_0 : decode cX4_count 0 = .ok (.iload_n 1, 1) := by decide +kernel
theorem dX4_count_1 : decode cX4_count 1 = .ok (.tableswitch 123 0 6 #[43, 51, 59, 78, 89, 100, 108], 43) := by decide +kernel
theorem dX4_count_44 : decode cX4_count 44 = .ok (.aload_n 0, 1) := by decide +kernel
theorem dX4_count_45 : decode cX4_count 45 = .ok (.getfield 10, 3) := by decide +kernel
theorem dX4_count_48 : decode cX4_count 48 = .ok (.getfield 43, 3) := by decide +kernel
theorem dX4_count_51 : decode cX4_count 51 = .ok (.ireturn, 1) := by decide +kernel
theorem dX4_count_52 : decode cX4_count 52 = .ok (.aload_n 0, 1) := by decide +kernel
theorem dX4_count_53 : decode cX4_count 53 = .ok (.getfield 19, 3) := by decide +kernel
theorem dX4_count_56 : decode cX4_count 56 = .ok (.getfield 70, 3) := by decide +kernel
theorem dX4_count_59 : decode cX4_count 59 = .ok (.ireturn, 1) := by decide +kernel
theorem dX4_count_60 : decode cX4_count 60 = .ok (.aload_n 0, 1) := by decide +kernel
theorem dX4_count_61 : decode cX4_count 61 = .ok (.getfield 19, 3) := by decide +kernel
theorem dX4_count_64 : decode cX4_count 64 = .ok (.getfield 70, 3) := by decide +kernel
theorem dX4_count_67 : decode cX4_count 67 = .ok (.aload_n 0, 1) := by decide +kernel
theorem dX4_count_68 : decode cX4_count 68 = .ok (.getfield 26, 3) := by decide +kernel
theorem dX4_count_71 : decode cX4_count 71 = .ok (.invokevirtual 239, 3) := by decide +kernel
theorem dX4_count_74 : decode cX4_count 74 = .ok (.invokestatic 132, 3) := by decide +kernel
theorem dX4_count_77 : decode cX4_count 77 = .ok (.isub, 1) := by decide +kernel
theorem dX4_count_78 : decode cX4_count 78 = .ok (.ireturn, 1) := by decide +kernel
theorem dX4_count_79 : decode cX4_count 79 = .ok (.aload_n 0, 1) := by decide +kernel
theorem dX4_count_80 : decode cX4_count 80 = .ok (.getfield 26, 3) := by decide +kernel
theorem dX4_count_83 : decode cX4_count 83 = .ok (.invokevirtual 125, 3) := by decide +kernel
theorem dX4_count_86 : decode cX4_count 86 = .ok (.invokestatic 132, 3) := by decide +kernel
theorem dX4_count_89 : decode cX4_count 89 = .ok (.ireturn, 1) := by decide +kernel
theorem dX4_count_90 : decode cX4_count 90 = .ok (.aload_n 0, 1) := by decide +kernel
theorem dX4_count_91 : decode cX4_count 91 = .ok (.getfield 26, 3) := by decide +kernel
theorem dX4_count_94 : decode cX4_count 94 = .ok (.invokevirtual 239, 3) := by decide +kernel
theorem dX4_count_97 : decode cX4_count 97 = .ok (.invokestatic 132, 3) := by decide +kernel
theorem dX4_count_100 : decode cX4_count 100 = .ok (.ireturn, 1) := by decide +kernel
theorem dX4_count_101 : decode cX4_count 101 = .ok (.aload_n 0, 1) := by decide +kernel
theorem dX4_count_102 : decode cX4_count 102 = .ok (.getfield 26, 3) := by decide +kernel
theorem dX4_count_105 : decode cX4_count 105 = .ok (.getfield 163, 3) := by decide +kernel
theorem dX4_count_108 : decode cX4_count 108 = .ok (.ireturn, 1) := by decide +kernel
theorem dX4_count_109 : decode cX4_count 109 = .ok (.aload_n 0, 1) := by decide +kernel
theorem dX4_count_110 : decode cX4_count 110 = .ok (.getfield 19, 3) := by decide +kernel
theorem dX4_count_113 : decode cX4_count 113 = .ok (.aload_n 0, 1) := by decide +kernel
theorem dX4_count_114 : decode cX4_count 114 = .ok (.getfield 26, 3) := by decide +kernel
theorem dX4_count_117 : decode cX4_count 117 = .ok (.invokevirtual 239, 3) := by decide +kernel
theorem dX4_count_120 : decode cX4_count 120 = .ok (.invokevirtual 172, 3) := by decide +kernel
theorem dX4_count_123 : decode cX4_count 123 = .ok (.ireturn, 1) := by decide +kernel
theorem dX4_count_124 : decode cX4_count 124 = .ok (.bipush (-2), 2) := by decide +kernel
theorem dX4_count_126 : decode cX4_count 126 = .ok (.ireturn, 1) := by decide +kernel
theorem dX4_isSlot_0 : decode cX4_isSlot 0 = .ok (.iload_n 0, 1) := by decide +kernel
theorem dX4_isSlot_1 : decode cX4_isSlot 1 = .ok (.ifCond .eq 8, 3) := by decide +kernel
theorem dX4_isSlot_4 : decode cX4_isSlot 4 = .ok (.iload_n 0, 1) := by decide +kernel
theorem dX4_isSlot_5 : decode cX4_isSlot 5 = .ok (.iconst 1, 1) := by decide +kernel
theorem dX4_isSlot_6 : decode cX4_isSlot 6 = .ok (.if_icmp .ne 7, 3) := by decide +kernel
theorem dX4_isSlot_9 : decode cX4_isSlot 9 = .ok (.iconst 1, 1) := by decide +kernel
theorem dX4_isSlot_10 : decode cX4_isSlot 10 = .ok (.goto 4, 3) := by decide +kernel
theorem dX4_isSlot_13 : decode cX4_isSlot 13 = .ok (.iconst 0, 1) := by decide +kernel
theorem dX4_isSlot_14 : decode cX4_isSlot 14 = .ok (.ireturn, 1) := by decide +kernel
theorem dX4_slotOf_0 : decode cX4_slotOf 0 = .ok (.iload_n 1, 1) := by decide +kernel
theorem dX4_slotOf_1 : decode cX4_slotOf 1 = .ok (.ifCond .ne 10, 3) := by decide +kernel
theorem dX4_slotOf_4 : decode cX4_slotOf 4 = .ok (.aload_n 0, 1) := by decide +kernel
theorem dX4_slotOf_5 : decode cX4_slotOf 5 = .ok (.getfield 30, 3) := by decide +kernel
theorem dX4_slotOf_8 : decode cX4_slotOf 8 = .ok (.goto 7, 3) := by decide +kernel
theorem dX4_slotOf_11 : decode cX4_slotOf 11 = .ok (.aload_n 0, 1) := by decide +kernel
theorem dX4_slotOf_12 : decode cX4_slotOf 12 = .ok (.getfield 33, 3) := by decide +kernel
theorem dX4_slotOf_15 : decode cX4_slotOf 15 = .ok (.areturn, 1) := by decide +kernel
theorem dX4_crewByRule_0 : decode cX4_crewByRule 0 = .ok (.aload_n 0, 1) := by decide +kernel
theorem dX4_crewByRule_1 : decode cX4_crewByRule 1 = .ok (.getfield 26, 3) := by decide +kernel
theorem dX4_crewByRule_4 : decode cX4_crewByRule 4 = .ok (.invokevirtual 239, 3) := by decide +kernel
theorem dX4_crewByRule_7 : decode cX4_crewByRule 7 = .ok (.istore_n 1, 1) := by decide +kernel
theorem dX4_crewByRule_8 : decode cX4_crewByRule 8 = .ok (.iconst 0, 1) := by decide +kernel
theorem dX4_crewByRule_9 : decode cX4_crewByRule 9 = .ok (.istore_n 2, 1) := by decide +kernel
theorem dX4_crewByRule_10 : decode cX4_crewByRule 10 = .ok (.iconst 0, 1) := by decide +kernel
theorem dX4_crewByRule_11 : decode cX4_crewByRule 11 = .ok (.istore_n 3, 1) := by decide +kernel
theorem dX4_crewByRule_12 : decode cX4_crewByRule 12 = .ok (.iload_n 3, 1) := by decide +kernel
theorem dX4_crewByRule_13 : decode cX4_crewByRule 13 = .ok (.aload_n 0, 1) := by decide +kernel
theorem dX4_crewByRule_14 : decode cX4_crewByRule 14 = .ok (.getfield 19, 3) := by decide +kernel
theorem dX4_crewByRule_17 : decode cX4_crewByRule 17 = .ok (.getfield 70, 3) := by decide +kernel
theorem dX4_crewByRule_20 : decode cX4_crewByRule 20 = .ok (.if_icmp .ge 40, 3) := by decide +kernel
theorem dX4_crewByRule_23 : decode cX4_crewByRule 23 = .ok (.iload_n 1, 1) := by decide +kernel
theorem dX4_crewByRule_24 : decode cX4_crewByRule 24 = .ok (.iload_n 3, 1) := by decide +kernel
theorem dX4_crewByRule_25 : decode cX4_crewByRule 25 = .ok (.ishr, 1) := by decide +kernel
theorem dX4_crewByRule_26 : decode cX4_crewByRule 26 = .ok (.iconst 1, 1) := by decide +kernel
theorem dX4_crewByRule_27 : decode cX4_crewByRule 27 = .ok (.iand, 1) := by decide +kernel
theorem dX4_crewByRule_28 : decode cX4_crewByRule 28 = .ok (.ifCond .ne 26, 3) := by decide +kernel
theorem dX4_crewByRule_31 : decode cX4_crewByRule 31 = .ok (.aload_n 0, 1) := by decide +kernel
theorem dX4_crewByRule_32 : decode cX4_crewByRule 32 = .ok (.iload_n 2, 1) := by decide +kernel
theorem dX4_crewByRule_33 : decode cX4_crewByRule 33 = .ok (.iload_n 3, 1) := by decide +kernel
theorem dX4_crewByRule_34 : decode cX4_crewByRule 34 = .ok (.invokevirtual 242, 3) := by decide +kernel
theorem dX4_crewByRule_37 : decode cX4_crewByRule 37 = .ok (.istore 4, 2) := by decide +kernel
theorem dX4_crewByRule_39 : decode cX4_crewByRule 39 = .ok (.iload 4, 2) := by decide +kernel
theorem dX4_crewByRule_41 : decode cX4_crewByRule 41 = .ok (.bipush (-9), 2) := by decide +kernel
theorem dX4_crewByRule_43 : decode cX4_crewByRule 43 = .ok (.if_icmp .eq 11, 3) := by decide +kernel
theorem dX4_crewByRule_46 : decode cX4_crewByRule 46 = .ok (.iload_n 2, 1) := by decide +kernel
theorem dX4_crewByRule_47 : decode cX4_crewByRule 47 = .ok (.iload_n 3, 1) := by decide +kernel
theorem dX4_crewByRule_48 : decode cX4_crewByRule 48 = .ok (.iload 4, 2) := by decide +kernel
theorem dX4_crewByRule_50 : decode cX4_crewByRule 50 = .ok (.invokestatic 137, 3) := by decide +kernel
theorem dX4_crewByRule_53 : decode cX4_crewByRule 53 = .ok (.istore_n 2, 1) := by decide +kernel
theorem dX4_crewByRule_54 : decode cX4_crewByRule 54 = .ok (.iinc 3 1, 3) := by decide +kernel
theorem dX4_crewByRule_57 : decode cX4_crewByRule 57 = .ok (.goto (-45), 3) := by decide +kernel
theorem dX4_crewByRule_60 : decode cX4_crewByRule 60 = .ok (.iload_n 2, 1) := by decide +kernel
theorem dX4_crewByRule_61 : decode cX4_crewByRule 61 = .ok (.ireturn, 1) := by decide +kernel
theorem dX4_lightestEnd_0 : decode cX4_lightestEnd 0 = .ok (.bipush (-9), 2) := by decide +kernel
theorem dX4_lightestEnd_2 : decode cX4_lightestEnd 2 = .ok (.istore_n 3, 1) := by decide +kernel
theorem dX4_lightestEnd_3 : decode cX4_lightestEnd 3 = .ok (.iconst 0, 1) := by decide +kernel
theorem dX4_lightestEnd_4 : decode cX4_lightestEnd 4 = .ok (.istore 4, 2) := by decide +kernel
theorem dX4_lightestEnd_6 : decode cX4_lightestEnd 6 = .ok (.iconst 0, 1) := by decide +kernel
theorem dX4_lightestEnd_7 : decode cX4_lightestEnd 7 = .ok (.istore 5, 2) := by decide +kernel
theorem dX4_lightestEnd_9 : decode cX4_lightestEnd 9 = .ok (.iload 5, 2) := by decide +kernel
theorem dX4_lightestEnd_11 : decode cX4_lightestEnd 11 = .ok (.aload_n 0, 1) := by decide +kernel
theorem dX4_lightestEnd_12 : decode cX4_lightestEnd 12 = .ok (.getfield 19, 3) := by decide +kernel
theorem dX4_lightestEnd_15 : decode cX4_lightestEnd 15 = .ok (.getfield 73, 3) := by decide +kernel
theorem dX4_lightestEnd_18 : decode cX4_lightestEnd 18 = .ok (.if_icmp .ge 110, 3) := by decide +kernel
theorem dX4_lightestEnd_21 : decode cX4_lightestEnd 21 = .ok (.iload_n 1, 1) := by decide +kernel
theorem dX4_lightestEnd_22 : decode cX4_lightestEnd 22 = .ok (.iload 5, 2) := by decide +kernel
theorem dX4_lightestEnd_24 : decode cX4_lightestEnd 24 = .ok (.invokestatic 128, 3) := by decide +kernel
theorem dX4_lightestEnd_27 : decode cX4_lightestEnd 27 = .ok (.invokestatic 132, 3) := by decide +kernel
theorem dX4_lightestEnd_30 : decode cX4_lightestEnd 30 = .ok (.aload_n 0, 1) := by decide +kernel
theorem dX4_lightestEnd_31 : decode cX4_lightestEnd 31 = .ok (.getfield 19, 3) := by decide +kernel
theorem dX4_lightestEnd_34 : decode cX4_lightestEnd 34 = .ok (.getfield 82, 3) := by decide +kernel
theorem dX4_lightestEnd_37 : decode cX4_lightestEnd 37 = .ok (.if_icmp .ge 7, 3) := by decide +kernel
theorem dX4_lightestEnd_40 : decode cX4_lightestEnd 40 = .ok (.iconst 1, 1) := by decide +kernel
theorem dX4_lightestEnd_41 : decode cX4_lightestEnd 41 = .ok (.goto 4, 3) := by decide +kernel
theorem dX4_lightestEnd_44 : decode cX4_lightestEnd 44 = .ok (.iconst 0, 1) := by decide +kernel
theorem dX4_lightestEnd_45 : decode cX4_lightestEnd 45 = .ok (.istore 6, 2) := by decide +kernel
theorem dX4_lightestEnd_47 : decode cX4_lightestEnd 47 = .ok (.iload 6, 2) := by decide +kernel
theorem dX4_lightestEnd_49 : decode cX4_lightestEnd 49 = .ok (.ifCond .eq 73, 3) := by decide +kernel
theorem dX4_lightestEnd_52 : decode cX4_lightestEnd 52 = .ok (.aload_n 0, 1) := by decide +kernel
theorem dX4_lightestEnd_53 : decode cX4_lightestEnd 53 = .ok (.getfield 19, 3) := by decide +kernel
theorem dX4_lightestEnd_56 : decode cX4_lightestEnd 56 = .ok (.iload_n 2, 1) := by decide +kernel
theorem dX4_lightestEnd_57 : decode cX4_lightestEnd 57 = .ok (.iload 5, 2) := by decide +kernel
theorem dX4_lightestEnd_59 : decode cX4_lightestEnd 59 = .ok (.invokevirtual 121, 3) := by decide +kernel
theorem dX4_lightestEnd_62 : decode cX4_lightestEnd 62 = .ok (.ifCond .eq 60, 3) := by decide +kernel
theorem dX4_lightestEnd_65 : decode cX4_lightestEnd 65 = .ok (.aload_n 0, 1) := by decide +kernel
theorem dX4_lightestEnd_66 : decode cX4_lightestEnd 66 = .ok (.getfield 19, 3) := by decide +kernel
theorem dX4_lightestEnd_69 : decode cX4_lightestEnd 69 = .ok (.iload 5, 2) := by decide +kernel
theorem dX4_lightestEnd_71 : decode cX4_lightestEnd 71 = .ok (.invokevirtual 245, 3) := by decide +kernel
theorem dX4_lightestEnd_74 : decode cX4_lightestEnd 74 = .ok (.aload_n 0, 1) := by decide +kernel
theorem dX4_lightestEnd_75 : decode cX4_lightestEnd 75 = .ok (.getfield 19, 3) := by decide +kernel
theorem dX4_lightestEnd_78 : decode cX4_lightestEnd 78 = .ok (.iload_n 1, 1) := by decide +kernel
theorem dX4_lightestEnd_79 : decode cX4_lightestEnd 79 = .ok (.iload 5, 2) := by decide +kernel
theorem dX4_lightestEnd_81 : decode cX4_lightestEnd 81 = .ok (.aload_n 0, 1) := by decide +kernel
theorem dX4_lightestEnd_82 : decode cX4_lightestEnd 82 = .ok (.getfield 19, 3) := by decide +kernel
theorem dX4_lightestEnd_85 : decode cX4_lightestEnd 85 = .ok (.getfield 95, 3) := by decide +kernel
theorem dX4_lightestEnd_88 : decode cX4_lightestEnd 88 = .ok (.aload_n 0, 1) := by decide +kernel
theorem dX4_lightestEnd_89 : decode cX4_lightestEnd 89 = .ok (.getfield 26, 3) := by decide +kernel
theorem dX4_lightestEnd_92 : decode cX4_lightestEnd 92 = .ok (.getfield 105, 3) := by decide +kernel
theorem dX4_lightestEnd_95 : decode cX4_lightestEnd 95 = .ok (.iconst 0, 1) := by decide +kernel
theorem dX4_lightestEnd_96 : decode cX4_lightestEnd 96 = .ok (.invokevirtual 151, 3) := by decide +kernel
theorem dX4_lightestEnd_99 : decode cX4_lightestEnd 99 = .ok (.imul, 1) := by decide +kernel
theorem dX4_lightestEnd_100 : decode cX4_lightestEnd 100 = .ok (.istore 7, 2) := by decide +kernel
theorem dX4_lightestEnd_102 : decode cX4_lightestEnd 102 = .ok (.iload_n 3, 1) := by decide +kernel
theorem dX4_lightestEnd_103 : decode cX4_lightestEnd 103 = .ok (.bipush (-9), 2) := by decide +kernel
theorem dX4_lightestEnd_105 : decode cX4_lightestEnd 105 = .ok (.if_icmp .eq 10, 3) := by decide +kernel
theorem dX4_lightestEnd_108 : decode cX4_lightestEnd 108 = .ok (.iload 7, 2) := by decide +kernel
theorem dX4_lightestEnd_110 : decode cX4_lightestEnd 110 = .ok (.iload 4, 2) := by decide +kernel
theorem dX4_lightestEnd_112 : decode cX4_lightestEnd 112 = .ok (.if_icmp .ge 10, 3) := by decide +kernel
theorem dX4_lightestEnd_115 : decode cX4_lightestEnd 115 = .ok (.iload 5, 2) := by decide +kernel
theorem dX4_lightestEnd_117 : decode cX4_lightestEnd 117 = .ok (.istore_n 3, 1) := by decide +kernel
theorem dX4_lightestEnd_118 : decode cX4_lightestEnd 118 = .ok (.iload 7, 2) := by decide +kernel
theorem dX4_lightestEnd_120 : decode cX4_lightestEnd 120 = .ok (.istore 4, 2) := by decide +kernel
theorem dX4_lightestEnd_122 : decode cX4_lightestEnd 122 = .ok (.iinc 5 1, 3) := by decide +kernel
theorem dX4_lightestEnd_125 : decode cX4_lightestEnd 125 = .ok (.goto (-116), 3) := by decide +kernel
theorem dX4_lightestEnd_128 : decode cX4_lightestEnd 128 = .ok (.iload_n 3, 1) := by decide +kernel
theorem dX4_lightestEnd_129 : decode cX4_lightestEnd 129 = .ok (.ireturn, 1) := by decide +kernel
theorem dX4_boatsFitBut_0 : decode cX4_boatsFitBut 0 = .ok (.iconst 0, 1) := by decide +kernel
theorem dX4_boatsFitBut_1 : decode cX4_boatsFitBut 1 = .ok (.istore_n 2, 1) := by decide +kernel
theorem dX4_boatsFitBut_2 : decode cX4_boatsFitBut 2 = .ok (.iload_n 2, 1) := by decide +kernel
theorem dX4_boatsFitBut_3 : decode cX4_boatsFitBut 3 = .ok (.aload_n 0, 1) := by decide +kernel
theorem dX4_boatsFitBut_4 : decode cX4_boatsFitBut 4 = .ok (.getfield 26, 3) := by decide +kernel
theorem dX4_boatsFitBut_7 : decode cX4_boatsFitBut 7 = .ok (.getfield 163, 3) := by decide +kernel
theorem dX4_boatsFitBut_10 : decode cX4_boatsFitBut 10 = .ok (.if_icmp .ge 45, 3) := by decide +kernel
theorem dX4_boatsFitBut_13 : decode cX4_boatsFitBut 13 = .ok (.iload_n 2, 1) := by decide +kernel
theorem dX4_boatsFitBut_14 : decode cX4_boatsFitBut 14 = .ok (.iload_n 1, 1) := by decide +kernel
theorem dX4_boatsFitBut_15 : decode cX4_boatsFitBut 15 = .ok (.if_icmp .eq 34, 3) := by decide +kernel
theorem dX4_boatsFitBut_18 : decode cX4_boatsFitBut 18 = .ok (.aload_n 0, 1) := by decide +kernel
theorem dX4_boatsFitBut_19 : decode cX4_boatsFitBut 19 = .ok (.getfield 19, 3) := by decide +kernel
theorem dX4_boatsFitBut_22 : decode cX4_boatsFitBut 22 = .ok (.aload_n 0, 1) := by decide +kernel
theorem dX4_boatsFitBut_23 : decode cX4_boatsFitBut 23 = .ok (.getfield 26, 3) := by decide +kernel
theorem dX4_boatsFitBut_26 : decode cX4_boatsFitBut 26 = .ok (.iload_n 2, 1) := by decide +kernel
theorem dX4_boatsFitBut_27 : decode cX4_boatsFitBut 27 = .ok (.invokevirtual 178, 3) := by decide +kernel
theorem dX4_boatsFitBut_30 : decode cX4_boatsFitBut 30 = .ok (.aload_n 0, 1) := by decide +kernel
theorem dX4_boatsFitBut_31 : decode cX4_boatsFitBut 31 = .ok (.getfield 26, 3) := by decide +kernel
theorem dX4_boatsFitBut_34 : decode cX4_boatsFitBut 34 = .ok (.getfield 108, 3) := by decide +kernel
theorem dX4_boatsFitBut_37 : decode cX4_boatsFitBut 37 = .ok (.aload_n 0, 1) := by decide +kernel
theorem dX4_boatsFitBut_38 : decode cX4_boatsFitBut 38 = .ok (.getfield 26, 3) := by decide +kernel
theorem dX4_boatsFitBut_41 : decode cX4_boatsFitBut 41 = .ok (.invokevirtual 159, 3) := by decide +kernel
theorem dX4_boatsFitBut_44 : decode cX4_boatsFitBut 44 = .ok (.ifCond .ne 5, 3) := by decide +kernel
theorem dX4_boatsFitBut_47 : decode cX4_boatsFitBut 47 = .ok (.iconst 0, 1) := by decide +kernel
theorem dX4_boatsFitBut_48 : decode cX4_boatsFitBut 48 = .ok (.ireturn, 1) := by decide +kernel
theorem dX4_boatsFitBut_49 : decode cX4_boatsFitBut 49 = .ok (.iinc 2 1, 3) := by decide +kernel
theorem dX4_boatsFitBut_52 : decode cX4_boatsFitBut 52 = .ok (.goto (-50), 3) := by decide +kernel
theorem dX4_boatsFitBut_55 : decode cX4_boatsFitBut 55 = .ok (.iconst 1, 1) := by decide +kernel
theorem dX4_boatsFitBut_56 : decode cX4_boatsFitBut 56 = .ok (.ireturn, 1) := by decide +kernel
theorem dX4_claimsThatFit_0 : decode cX4_claimsThatFit 0 = .ok (.aload_n 0, 1) := by decide +kernel
theorem dX4_claimsThatFit_1 : decode cX4_claimsThatFit 1 = .ok (.getfield 26, 3) := by decide +kernel
theorem dX4_claimsThatFit_4 : decode cX4_claimsThatFit 4 = .ok (.iload_n 1, 1) := by decide +kernel
theorem dX4_claimsThatFit_5 : decode cX4_claimsThatFit 5 = .ok (.invokevirtual 248, 3) := by decide +kernel
theorem dX4_claimsThatFit_8 : decode cX4_claimsThatFit 8 = .ok (.istore_n 2, 1) := by decide +kernel
theorem dX4_claimsThatFit_9 : decode cX4_claimsThatFit 9 = .ok (.aload_n 0, 1) := by decide +kernel
theorem dX4_claimsThatFit_10 : decode cX4_claimsThatFit 10 = .ok (.iload_n 2, 1) := by decide +kernel
theorem dX4_claimsThatFit_11 : decode cX4_claimsThatFit 11 = .ok (.invokevirtual 222, 3) := by decide +kernel
theorem dX4_claimsThatFit_14 : decode cX4_claimsThatFit 14 = .ok (.ifCond .ne 5, 3) := by decide +kernel
theorem dX4_claimsThatFit_17 : decode cX4_claimsThatFit 17 = .ok (.iconst 0, 1) := by decide +kernel
theorem dX4_claimsThatFit_18 : decode cX4_claimsThatFit 18 = .ok (.ireturn, 1) := by decide +kernel
theorem dX4_claimsThatFit_19 : decode cX4_claimsThatFit 19 = .ok (.iload_n 2, 1) := by decide +kernel
theorem dX4_claimsThatFit_20 : decode cX4_claimsThatFit 20 = .ok (.bipush (-9), 2) := by decide +kernel
theorem dX4_claimsThatFit_22 : decode cX4_claimsThatFit 22 = .ok (.if_icmp .ne 6, 3) := by decide +kernel
theorem dX4_claimsThatFit_25 : decode cX4_claimsThatFit 25 = .ok (.bipush 99, 2) := by decide +kernel
theorem dX4_claimsThatFit_27 : decode cX4_claimsThatFit 27 = .ok (.ireturn, 1) := by decide +kernel
theorem dX4_claimsThatFit_28 : decode cX4_claimsThatFit 28 = .ok (.aload_n 0, 1) := by decide +kernel
theorem dX4_claimsThatFit_29 : decode cX4_claimsThatFit 29 = .ok (.getfield 26, 3) := by decide +kernel
theorem dX4_claimsThatFit_32 : decode cX4_claimsThatFit 32 = .ok (.getfield 108, 3) := by decide +kernel
theorem dX4_claimsThatFit_35 : decode cX4_claimsThatFit 35 = .ok (.iload_n 1, 1) := by decide +kernel
theorem dX4_claimsThatFit_36 : decode cX4_claimsThatFit 36 = .ok (.iaload, 1) := by decide +kernel
theorem dX4_claimsThatFit_37 : decode cX4_claimsThatFit 37 = .ok (.istore_n 3, 1) := by decide +kernel
theorem dX4_claimsThatFit_38 : decode cX4_claimsThatFit 38 = .ok (.iconst 0, 1) := by decide +kernel
theorem dX4_claimsThatFit_39 : decode cX4_claimsThatFit 39 = .ok (.istore 4, 2) := by decide +kernel
theorem dX4_claimsThatFit_41 : decode cX4_claimsThatFit 41 = .ok (.iconst 1, 1) := by decide +kernel
theorem dX4_claimsThatFit_42 : decode cX4_claimsThatFit 42 = .ok (.istore 5, 2) := by decide +kernel
theorem dX4_claimsThatFit_44 : decode cX4_claimsThatFit 44 = .ok (.iload 5, 2) := by decide +kernel
theorem dX4_claimsThatFit_46 : decode cX4_claimsThatFit 46 = .ok (.bipush 99, 2) := by decide +kernel
theorem dX4_claimsThatFit_48 : decode cX4_claimsThatFit 48 = .ok (.if_icmp .gt 52, 3) := by decide +kernel
theorem dX4_claimsThatFit_51 : decode cX4_claimsThatFit 51 = .ok (.aload_n 0, 1) := by decide +kernel
theorem dX4_claimsThatFit_52 : decode cX4_claimsThatFit 52 = .ok (.getfield 26, 3) := by decide +kernel
theorem dX4_claimsThatFit_55 : decode cX4_claimsThatFit 55 = .ok (.getfield 108, 3) := by decide +kernel
theorem dX4_claimsThatFit_58 : decode cX4_claimsThatFit 58 = .ok (.iload_n 1, 1) := by decide +kernel
theorem dX4_claimsThatFit_59 : decode cX4_claimsThatFit 59 = .ok (.iload 5, 2) := by decide +kernel
theorem dX4_claimsThatFit_61 : decode cX4_claimsThatFit 61 = .ok (.iastore, 1) := by decide +kernel
theorem dX4_claimsThatFit_62 : decode cX4_claimsThatFit 62 = .ok (.aload_n 0, 1) := by decide +kernel
theorem dX4_claimsThatFit_63 : decode cX4_claimsThatFit 63 = .ok (.getfield 19, 3) := by decide +kernel
theorem dX4_claimsThatFit_66 : decode cX4_claimsThatFit 66 = .ok (.aload_n 0, 1) := by decide +kernel
theorem dX4_claimsThatFit_67 : decode cX4_claimsThatFit 67 = .ok (.getfield 26, 3) := by decide +kernel
theorem dX4_claimsThatFit_70 : decode cX4_claimsThatFit 70 = .ok (.iload_n 2, 1) := by decide +kernel
theorem dX4_claimsThatFit_71 : decode cX4_claimsThatFit 71 = .ok (.invokevirtual 178, 3) := by decide +kernel
theorem dX4_claimsThatFit_74 : decode cX4_claimsThatFit 74 = .ok (.aload_n 0, 1) := by decide +kernel
theorem dX4_claimsThatFit_75 : decode cX4_claimsThatFit 75 = .ok (.getfield 26, 3) := by decide +kernel
theorem dX4_claimsThatFit_78 : decode cX4_claimsThatFit 78 = .ok (.getfield 108, 3) := by decide +kernel
theorem dX4_claimsThatFit_81 : decode cX4_claimsThatFit 81 = .ok (.aload_n 0, 1) := by decide +kernel
theorem dX4_claimsThatFit_82 : decode cX4_claimsThatFit 82 = .ok (.getfield 26, 3) := by decide +kernel
theorem dX4_claimsThatFit_85 : decode cX4_claimsThatFit 85 = .ok (.invokevirtual 159, 3) := by decide +kernel
theorem dX4_claimsThatFit_88 : decode cX4_claimsThatFit 88 = .ok (.ifCond .eq 6, 3) := by decide +kernel
theorem dX4_claimsThatFit_91 : decode cX4_claimsThatFit 91 = .ok (.iinc 4 1, 3) := by decide +kernel
theorem dX4_claimsThatFit_94 : decode cX4_claimsThatFit 94 = .ok (.iinc 5 1, 3) := by decide +kernel
theorem dX4_claimsThatFit_97 : decode cX4_claimsThatFit 97 = .ok (.goto (-53), 3) := by decide +kernel
theorem dX4_claimsThatFit_100 : decode cX4_claimsThatFit 100 = .ok (.aload_n 0, 1) := by decide +kernel
theorem dX4_claimsThatFit_101 : decode cX4_claimsThatFit 101 = .ok (.getfield 26, 3) := by decide +kernel
theorem dX4_claimsThatFit_104 : decode cX4_claimsThatFit 104 = .ok (.getfield 108, 3) := by decide +kernel
theorem dX4_claimsThatFit_107 : decode cX4_claimsThatFit 107 = .ok (.iload_n 1, 1) := by decide +kernel
theorem dX4_claimsThatFit_108 : decode cX4_claimsThatFit 108 = .ok (.iload_n 3, 1) := by decide +kernel
theorem dX4_claimsThatFit_109 : decode cX4_claimsThatFit 109 = .ok (.iastore, 1) := by decide +kernel
theorem dX4_claimsThatFit_110 : decode cX4_claimsThatFit 110 = .ok (.iload 4, 2) := by decide +kernel
theorem dX4_claimsThatFit_112 : decode cX4_claimsThatFit 112 = .ok (.ireturn, 1) := by decide +kernel
theorem dX4_sitters_0 : decode cX4_sitters 0 = .ok (.iload_n 0, 1) := by decide +kernel
theorem dX4_sitters_1 : decode cX4_sitters 1 = .ok (.bipush 8, 2) := by decide +kernel
theorem dX4_sitters_3 : decode cX4_sitters 3 = .ok (.iload_n 1, 1) := by decide +kernel
theorem dX4_sitters_4 : decode cX4_sitters 4 = .ok (.imul, 1) := by decide +kernel
theorem dX4_sitters_5 : decode cX4_sitters 5 = .ok (.iushr, 1) := by decide +kernel
theorem dX4_sitters_6 : decode cX4_sitters 6 = .ok (.sipush 255, 3) := by decide +kernel
theorem dX4_sitters_9 : decode cX4_sitters 9 = .ok (.iand, 1) := by decide +kernel
theorem dX4_sitters_10 : decode cX4_sitters 10 = .ok (.ireturn, 1) := by decide +kernel
theorem dX4_members_0 : decode cX4_members 0 = .ok (.iload_n 0, 1) := by decide +kernel
theorem dX4_members_1 : decode cX4_members 1 = .ok (.iload_n 0, 1) := by decide +kernel
theorem dX4_members_2 : decode cX4_members 2 = .ok (.bipush 8, 2) := by decide +kernel
theorem dX4_members_4 : decode cX4_members 4 = .ok (.iushr, 1) := by decide +kernel
theorem dX4_members_5 : decode cX4_members 5 = .ok (.ior, 1) := by decide +kernel
theorem dX4_members_6 : decode cX4_members 6 = .ok (.iload_n 0, 1) := by decide +kernel
theorem dX4_members_7 : decode cX4_members 7 = .ok (.bipush 16, 2) := by decide +kernel
theorem dX4_members_9 : decode cX4_members 9 = .ok (.iushr, 1) := by decide +kernel
theorem dX4_members_10 : decode cX4_members 10 = .ok (.ior, 1) := by decide +kernel
theorem dX4_members_11 : decode cX4_members 11 = .ok (.sipush 255, 3) := by decide +kernel
theorem dX4_members_14 : decode cX4_members 14 = .ok (.iand, 1) := by decide +kernel
theorem dX4_members_15 : decode cX4_members 15 = .ok (.ireturn, 1) := by decide +kernel
theorem dX4_seat_0 : decode cX4_seat 0 = .ok (.iload_n 0, 1) := by decide +kernel
theorem dX4_seat_1 : decode cX4_seat 1 = .ok (.iconst 1, 1) := by decide +kernel
theorem dX4_seat_2 : decode cX4_seat 2 = .ok (.bipush 8, 2) := by decide +kernel
theorem dX4_seat_4 : decode cX4_seat 4 = .ok (.iload_n 2, 1) := by decide +kernel
theorem dX4_seat_5 : decode cX4_seat 5 = .ok (.imul, 1) := by decide +kernel
theorem dX4_seat_6 : decode cX4_seat 6 = .ok (.iload_n 1, 1) := by decide +kernel
theorem dX4_seat_7 : decode cX4_seat 7 = .ok (.iadd, 1) := by decide +kernel
theorem dX4_seat_8 : decode cX4_seat 8 = .ok (.ishl, 1) := by decide +kernel
theorem dX4_seat_9 : decode cX4_seat 9 = .ok (.ior, 1) := by decide +kernel
theorem dX4_seat_10 : decode cX4_seat 10 = .ok (.ireturn, 1) := by decide +kernel
theorem dX4_unseat_0 : decode cX4_unseat 0 = .ok (.iload_n 0, 1) := by decide +kernel
theorem dX4_unseat_1 : decode cX4_unseat 1 = .ok (.iconst 1, 1) := by decide +kernel
theorem dX4_unseat_2 : decode cX4_unseat 2 = .ok (.bipush 8, 2) := by decide +kernel
theorem dX4_unseat_4 : decode cX4_unseat 4 = .ok (.iload_n 2, 1) := by decide +kernel
theorem dX4_unseat_5 : decode cX4_unseat 5 = .ok (.imul, 1) := by decide +kernel
theorem dX4_unseat_6 : decode cX4_unseat 6 = .ok (.iload_n 1, 1) := by decide +kernel
theorem dX4_unseat_7 : decode cX4_unseat 7 = .ok (.iadd, 1) := by decide +kernel
theorem dX4_unseat_8 : decode cX4_unseat 8 = .ok (.ishl, 1) := by decide +kernel
theorem dX4_unseat_9 : decode cX4_unseat 9 = .ok (.iconst (-1), 1) := by decide +kernel
theorem dX4_unseat_10 : decode cX4_unseat 10 = .ok (.ixor, 1) := by decide +kernel
theorem dX4_unseat_11 : decode cX4_unseat 11 = .ok (.iand, 1) := by decide +kernel
theorem dX4_unseat_12 : decode cX4_unseat 12 = .ok (.ireturn, 1) := by decide +kernel
theorem dX4_endOf_0 : decode cX4_endOf 0 = .ok (.iconst 0, 1) := by decide +kernel
theorem dX4_endOf_1 : decode cX4_endOf 1 = .ok (.istore_n 2, 1) := by decide +kernel
theorem dX4_endOf_2 : decode cX4_endOf 2 = .ok (.iload_n 2, 1) := by decide +kernel
theorem dX4_endOf_3 : decode cX4_endOf 3 = .ok (.iconst 3, 1) := by decide +kernel
theorem dX4_endOf_4 : decode cX4_endOf 4 = .ok (.if_icmp .ge 23, 3) := by decide +kernel
theorem dX4_endOf_7 : decode cX4_endOf 7 = .ok (.iload_n 0, 1) := by decide +kernel
theorem dX4_endOf_8 : decode cX4_endOf 8 = .ok (.iload_n 2, 1) := by decide +kernel
theorem dX4_endOf_9 : decode cX4_endOf 9 = .ok (.invokestatic 128, 3) := by decide +kernel
theorem dX4_endOf_12 : decode cX4_endOf 12 = .ok (.iload_n 1, 1) := by decide +kernel
theorem dX4_endOf_13 : decode cX4_endOf 13 = .ok (.ishr, 1) := by decide +kernel
theorem dX4_endOf_14 : decode cX4_endOf 14 = .ok (.iconst 1, 1) := by decide +kernel
theorem dX4_endOf_15 : decode cX4_endOf 15 = .ok (.iand, 1) := by decide +kernel
theorem dX4_endOf_16 : decode cX4_endOf 16 = .ok (.ifCond .eq 5, 3) := by decide +kernel
theorem dX4_endOf_19 : decode cX4_endOf 19 = .ok (.iload_n 2, 1) := by decide +kernel
theorem dX4_endOf_20 : decode cX4_endOf 20 = .ok (.ireturn, 1) := by decide +kernel
theorem dX4_endOf_21 : decode cX4_endOf 21 = .ok (.iinc 2 1, 3) := by decide +kernel
theorem dX4_endOf_24 : decode cX4_endOf 24 = .ok (.goto (-22), 3) := by decide +kernel
theorem dX4_endOf_27 : decode cX4_endOf 27 = .ok (.bipush (-9), 2) := by decide +kernel
theorem dX4_endOf_29 : decode cX4_endOf 29 = .ok (.ireturn, 1) := by decide +kernel
theorem dX4_isMinute_0 : decode cX4_isMinute 0 = .ok (.iload_n 0, 1) := by decide +kernel
theorem dX4_isMinute_1 : decode cX4_isMinute 1 = .ok (.ifCond .lt 13, 3) := by decide +kernel
theorem dX4_isMinute_4 : decode cX4_isMinute 4 = .ok (.iload_n 0, 1) := by decide +kernel
theorem dX4_isMinute_5 : decode cX4_isMinute 5 = .ok (.bipush 9, 2) := by decide +kernel
theorem dX4_isMinute_7 : decode cX4_isMinute 7 = .ok (.if_icmp .gt 7, 3) := by decide +kernel
theorem dX4_isMinute_10 : decode cX4_isMinute 10 = .ok (.iconst 1, 1) := by decide +kernel
theorem dX4_isMinute_11 : decode cX4_isMinute 11 = .ok (.goto 4, 3) := by decide +kernel
theorem dX4_isMinute_14 : decode cX4_isMinute 14 = .ok (.iconst 0, 1) := by decide +kernel
theorem dX4_isMinute_15 : decode cX4_isMinute 15 = .ok (.ireturn, 1) := by decide +kernel
theorem dX4_poundsAfter_0 : decode cX4_poundsAfter 0 = .ok (.iload_n 0, 1) := by decide +kernel
theorem dX4_poundsAfter_1 : decode cX4_poundsAfter 1 = .ok (.iload_n 1, 1) := by decide +kernel
theorem dX4_poundsAfter_2 : decode cX4_poundsAfter 2 = .ok (.iload_n 2, 1) := by decide +kernel
theorem dX4_poundsAfter_3 : decode cX4_poundsAfter 3 = .ok (.imul, 1) := by decide +kernel
theorem dX4_poundsAfter_4 : decode cX4_poundsAfter 4 = .ok (.iadd, 1) := by decide +kernel
theorem dX4_poundsAfter_5 : decode cX4_poundsAfter 5 = .ok (.istore_n 3, 1) := by decide +kernel
theorem dX4_poundsAfter_6 : decode cX4_poundsAfter 6 = .ok (.iload_n 3, 1) := by decide +kernel
theorem dX4_poundsAfter_7 : decode cX4_poundsAfter 7 = .ok (.ifCond .ge 7, 3) := by decide +kernel
theorem dX4_poundsAfter_10 : decode cX4_poundsAfter 10 = .ok (.iconst 0, 1) := by decide +kernel
theorem dX4_poundsAfter_11 : decode cX4_poundsAfter 11 = .ok (.goto 4, 3) := by decide +kernel
theorem dX4_poundsAfter_14 : decode cX4_poundsAfter 14 = .ok (.iload_n 3, 1) := by decide +kernel
theorem dX4_poundsAfter_15 : decode cX4_poundsAfter 15 = .ok (.ireturn, 1) := by decide +kernel
theorem dJ6_bitCount_0f7a4_0 : decode cJ6_bitCount_0f7a4 0 = .ok (.iload_n 0, 1) := by decide +kernel
theorem dJ6_bitCount_0f7a4_1 : decode cJ6_bitCount_0f7a4 1 = .ok (.iload_n 0, 1) := by decide +kernel
theorem dJ6_bitCount_0f7a4_2 : decode cJ6_bitCount_0f7a4 2 = .ok (.iconst 1, 1) := by decide +kernel
theorem dJ6_bitCount_0f7a4_3 : decode cJ6_bitCount_0f7a4 3 = .ok (.iushr, 1) := by decide +kernel
theorem dJ6_bitCount_0f7a4_4 : decode cJ6_bitCount_0f7a4 4 = .ok (.ldc_w 265, 3) := by decide +kernel
theorem dJ6_bitCount_0f7a4_7 : decode cJ6_bitCount_0f7a4 7 = .ok (.iand, 1) := by decide +kernel
theorem dJ6_bitCount_0f7a4_8 : decode cJ6_bitCount_0f7a4 8 = .ok (.isub, 1) := by decide +kernel
theorem dJ6_bitCount_0f7a4_9 : decode cJ6_bitCount_0f7a4 9 = .ok (.istore_n 0, 1) := by decide +kernel
theorem dJ6_bitCount_0f7a4_10 : decode cJ6_bitCount_0f7a4 10 = .ok (.iload_n 0, 1) := by decide +kernel
theorem dJ6_bitCount_0f7a4_11 : decode cJ6_bitCount_0f7a4 11 = .ok (.ldc_w 266, 3) := by decide +kernel
theorem dJ6_bitCount_0f7a4_14 : decode cJ6_bitCount_0f7a4 14 = .ok (.iand, 1) := by decide +kernel
theorem dJ6_bitCount_0f7a4_15 : decode cJ6_bitCount_0f7a4 15 = .ok (.iload_n 0, 1) := by decide +kernel
theorem dJ6_bitCount_0f7a4_16 : decode cJ6_bitCount_0f7a4 16 = .ok (.iconst 2, 1) := by decide +kernel
theorem dJ6_bitCount_0f7a4_17 : decode cJ6_bitCount_0f7a4 17 = .ok (.iushr, 1) := by decide +kernel
theorem dJ6_bitCount_0f7a4_18 : decode cJ6_bitCount_0f7a4 18 = .ok (.ldc_w 266, 3) := by decide +kernel
theorem dJ6_bitCount_0f7a4_21 : decode cJ6_bitCount_0f7a4 21 = .ok (.iand, 1) := by decide +kernel
theorem dJ6_bitCount_0f7a4_22 : decode cJ6_bitCount_0f7a4 22 = .ok (.iadd, 1) := by decide +kernel
theorem dJ6_bitCount_0f7a4_23 : decode cJ6_bitCount_0f7a4 23 = .ok (.istore_n 0, 1) := by decide +kernel
theorem dJ6_bitCount_0f7a4_24 : decode cJ6_bitCount_0f7a4 24 = .ok (.iload_n 0, 1) := by decide +kernel
theorem dJ6_bitCount_0f7a4_25 : decode cJ6_bitCount_0f7a4 25 = .ok (.iload_n 0, 1) := by decide +kernel
theorem dJ6_bitCount_0f7a4_26 : decode cJ6_bitCount_0f7a4 26 = .ok (.iconst 4, 1) := by decide +kernel
theorem dJ6_bitCount_0f7a4_27 : decode cJ6_bitCount_0f7a4 27 = .ok (.iushr, 1) := by decide +kernel
theorem dJ6_bitCount_0f7a4_28 : decode cJ6_bitCount_0f7a4 28 = .ok (.iadd, 1) := by decide +kernel
theorem dJ6_bitCount_0f7a4_29 : decode cJ6_bitCount_0f7a4 29 = .ok (.ldc_w 267, 3) := by decide +kernel
theorem dJ6_bitCount_0f7a4_32 : decode cJ6_bitCount_0f7a4 32 = .ok (.iand, 1) := by decide +kernel
theorem dJ6_bitCount_0f7a4_33 : decode cJ6_bitCount_0f7a4 33 = .ok (.istore_n 0, 1) := by decide +kernel
theorem dJ6_bitCount_0f7a4_34 : decode cJ6_bitCount_0f7a4 34 = .ok (.iload_n 0, 1) := by decide +kernel
theorem dJ6_bitCount_0f7a4_35 : decode cJ6_bitCount_0f7a4 35 = .ok (.iload_n 0, 1) := by decide +kernel
theorem dJ6_bitCount_0f7a4_36 : decode cJ6_bitCount_0f7a4 36 = .ok (.bipush 8, 2) := by decide +kernel
theorem dJ6_bitCount_0f7a4_38 : decode cJ6_bitCount_0f7a4 38 = .ok (.iushr, 1) := by decide +kernel
theorem dJ6_bitCount_0f7a4_39 : decode cJ6_bitCount_0f7a4 39 = .ok (.iadd, 1) := by decide +kernel
theorem dJ6_bitCount_0f7a4_40 : decode cJ6_bitCount_0f7a4 40 = .ok (.istore_n 0, 1) := by decide +kernel
theorem dJ6_bitCount_0f7a4_41 : decode cJ6_bitCount_0f7a4 41 = .ok (.iload_n 0, 1) := by decide +kernel
theorem dJ6_bitCount_0f7a4_42 : decode cJ6_bitCount_0f7a4 42 = .ok (.iload_n 0, 1) := by decide +kernel
theorem dJ6_bitCount_0f7a4_43 : decode cJ6_bitCount_0f7a4 43 = .ok (.bipush 16, 2) := by decide +kernel
theorem dJ6_bitCount_0f7a4_45 : decode cJ6_bitCount_0f7a4 45 = .ok (.iushr, 1) := by decide +kernel
theorem dJ6_bitCount_0f7a4_46 : decode cJ6_bitCount_0f7a4 46 = .ok (.iadd, 1) := by decide +kernel
theorem dJ6_bitCount_0f7a4_47 : decode cJ6_bitCount_0f7a4 47 = .ok (.istore_n 0, 1) := by decide +kernel
theorem dJ6_bitCount_0f7a4_48 : decode cJ6_bitCount_0f7a4 48 = .ok (.iload_n 0, 1) := by decide +kernel
theorem dJ6_bitCount_0f7a4_49 : decode cJ6_bitCount_0f7a4 49 = .ok (.bipush 63, 2) := by decide +kernel
theorem dJ6_bitCount_0f7a4_51 : decode cJ6_bitCount_0f7a4 51 = .ok (.iand, 1) := by decide +kernel
theorem dJ6_bitCount_0f7a4_52 : decode cJ6_bitCount_0f7a4 52 = .ok (.ireturn, 1) := by decide +kernel
theorem dJ9_max_7cf53_0 : decode cJ9_max_7cf53 0 = .ok (.iload_n 0, 1) := by decide +kernel
theorem dJ9_max_7cf53_1 : decode cJ9_max_7cf53 1 = .ok (.iload_n 1, 1) := by decide +kernel
theorem dJ9_max_7cf53_2 : decode cJ9_max_7cf53 2 = .ok (.if_icmp .lt 7, 3) := by decide +kernel
theorem dJ9_max_7cf53_5 : decode cJ9_max_7cf53 5 = .ok (.iload_n 0, 1) := by decide +kernel
theorem dJ9_max_7cf53_6 : decode cJ9_max_7cf53 6 = .ok (.goto 4, 3) := by decide +kernel
theorem dJ9_max_7cf53_9 : decode cJ9_max_7cf53 9 = .ok (.iload_n 1, 1) := by decide +kernel
theorem dJ9_max_7cf53_10 : decode cJ9_max_7cf53 10 = .ok (.ireturn, 1) := by decide +kernel
theorem dJ9_min_7cf53_0 : decode cJ9_min_7cf53 0 = .ok (.iload_n 0, 1) := by decide +kernel
theorem dJ9_min_7cf53_1 : decode cJ9_min_7cf53 1 = .ok (.iload_n 1, 1) := by decide +kernel
theorem dJ9_min_7cf53_2 : decode cJ9_min_7cf53 2 = .ok (.if_icmp .gt 7, 3) := by decide +kernel
theorem dJ9_min_7cf53_5 : decode cJ9_min_7cf53 5 = .ok (.iload_n 0, 1) := by decide +kernel
theorem dJ9_min_7cf53_6 : decode cJ9_min_7cf53 6 = .ok (.goto 4, 3) := by decide +kernel
theorem dJ9_min_7cf53_9 : decode cJ9_min_7cf53 9 = .ok (.iload_n 1, 1) := by decide +kernel
theorem dJ9_min_7cf53_10 : decode cJ9_min_7cf53 10 = .ok (.ireturn, 1) := by decide +kernel
