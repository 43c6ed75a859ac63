theorem dX0_init_0 : decode cX0_init 0 = .ok (.aload_n 0, 1) := by decide +kernel
theorem dX0_init_1 : decode cX0_init 1 = .ok (.invokespecial 1, 3) := by decide +kernel
theorem dX0_init_4 : decode cX0_init 4 = .ok (.aload_n 0, 1) := by decide +kernel
theorem dX0_init_5 : decode cX0_init 5 = .ok (.bipush 8, 2) := by decide +kernel
theorem dX0_init_7 : decode cX0_init 7 = .ok (.newarray .int, 2) := by decide +kernel
theorem dX0_init_9 : decode cX0_init 9 = .ok (.putfield 9, 3) := by decide +kernel
theorem dX0_init_12 : decode cX0_init 12 = .ok (.aload_n 0, 1) := by decide +kernel
theorem dX0_init_13 : decode cX0_init 13 = .ok (.bipush 8, 2) := by decide +kernel
theorem dX0_init_15 : decode cX0_init 15 = .ok (.newarray .int, 2) := by decide +kernel
theorem dX0_init_17 : decode cX0_init 17 = .ok (.putfield 13, 3) := by decide +kernel
theorem dX0_init_20 : decode cX0_init 20 = .ok (.return_, 1) := by decide +kernel
theorem dX0_size_0 : decode cX0_size 0 = .ok (.aload_n 0, 1) := by decide +kernel
theorem dX0_size_1 : decode cX0_size 1 = .ok (.getfield 16, 3) := by decide +kernel
theorem dX0_size_4 : decode cX0_size 4 = .ok (.ireturn, 1) := by decide +kernel
theorem dX0_isFull_0 : decode cX0_isFull 0 = .ok (.aload_n 0, 1) := by decide +kernel
theorem dX0_isFull_1 : decode cX0_isFull 1 = .ok (.getfield 16, 3) := by decide +kernel
theorem dX0_isFull_4 : decode cX0_isFull 4 = .ok (.bipush 8, 2) := by decide +kernel
theorem dX0_isFull_6 : decode cX0_isFull 6 = .ok (.if_icmp .lt 7, 3) := by decide +kernel
theorem dX0_isFull_9 : decode cX0_isFull 9 = .ok (.iconst 1, 1) := by decide +kernel
theorem dX0_isFull_10 : decode cX0_isFull 10 = .ok (.goto 4, 3) := by decide +kernel
theorem dX0_isFull_13 : decode cX0_isFull 13 = .ok (.iconst 0, 1) := by decide +kernel
theorem dX0_isFull_14 : decode cX0_isFull 14 = .ok (.ireturn, 1) := by decide +kernel
theorem dX0_add_0 : decode cX0_add 0 = .ok (.aload_n 0, 1) := by decide +kernel
theorem dX0_add_1 : decode cX0_add 1 = .ok (.getfield 9, 3) := by decide +kernel
theorem dX0_add_4 : decode cX0_add 4 = .ok (.aload_n 0, 1) := by decide +kernel
theorem dX0_add_5 : decode cX0_add 5 = .ok (.getfield 16, 3) := by decide +kernel
theorem dX0_add_8 : decode cX0_add 8 = .ok (.iload_n 1, 1) := by decide +kernel
theorem dX0_add_9 : decode cX0_add 9 = .ok (.iastore, 1) := by decide +kernel
theorem dX0_add_10 : decode cX0_add 10 = .ok (.aload_n 0, 1) := by decide +kernel
theorem dX0_add_11 : decode cX0_add 11 = .ok (.getfield 13, 3) := by decide +kernel
theorem dX0_add_14 : decode cX0_add 14 = .ok (.aload_n 0, 1) := by decide +kernel
theorem dX0_add_15 : decode cX0_add 15 = .ok (.getfield 16, 3) := by decide +kernel
theorem dX0_add_18 : decode cX0_add 18 = .ok (.iload_n 2, 1) := by decide +kernel
theorem dX0_add_19 : decode cX0_add 19 = .ok (.iastore, 1) := by decide +kernel
theorem dX0_add_20 : decode cX0_add 20 = .ok (.aload_n 0, 1) := by decide +kernel
theorem dX0_add_21 : decode cX0_add 21 = .ok (.dup, 1) := by decide +kernel
theorem dX0_add_22 : decode cX0_add 22 = .ok (.getfield 16, 3) := by decide +kernel
theorem dX0_add_25 : decode cX0_add 25 = .ok (.iconst 1, 1) := by decide +kernel
theorem dX0_add_26 : decode cX0_add 26 = .ok (.iadd, 1) := by decide +kernel
theorem dX0_add_27 : decode cX0_add 27 = .ok (.putfield 16, 3) := by decide +kernel
theorem dX0_add_30 : decode cX0_add 30 = .ok (.aload_n 0, 1) := by decide +kernel
theorem dX0_add_31 : decode cX0_add 31 = .ok (.getfield 16, 3) := by decide +kernel
theorem dX0_add_34 : decode cX0_add 34 = .ok (.iconst 1, 1) := by decide +kernel
theorem dX0_add_35 : decode cX0_add 35 = .ok (.isub, 1) := by decide +kernel
theorem dX0_add_36 : decode cX0_add 36 = .ok (.ireturn, 1) := by decide +kernel
theorem dX0_landsOf_0 : decode cX0_landsOf 0 = .ok (.aload_n 0, 1) := by decide +kernel
theorem dX0_landsOf_1 : decode cX0_landsOf 1 = .ok (.getfield 9, 3) := by decide +kernel
theorem dX0_landsOf_4 : decode cX0_landsOf 4 = .ok (.iload_n 1, 1) := by decide +kernel
theorem dX0_landsOf_5 : decode cX0_landsOf 5 = .ok (.iaload, 1) := by decide +kernel
theorem dX0_landsOf_6 : decode cX0_landsOf 6 = .ok (.ireturn, 1) := by decide +kernel
theorem dX0_ageOf_0 : decode cX0_ageOf 0 = .ok (.aload_n 0, 1) := by decide +kernel
theorem dX0_ageOf_1 : decode cX0_ageOf 1 = .ok (.getfield 13, 3) := by decide +kernel
theorem dX0_ageOf_4 : decode cX0_ageOf 4 = .ok (.iload_n 1, 1) := by decide +kernel
theorem dX0_ageOf_5 : decode cX0_ageOf 5 = .ok (.iaload, 1) := by decide +kernel
theorem dX0_ageOf_6 : decode cX0_ageOf 6 = .ok (.ireturn, 1) := by decide +kernel
theorem dX0_howManyLands_0 : decode cX0_howManyLands 0 = .ok (.aload_n 0, 1) := by decide +kernel
theorem dX0_howManyLands_1 : decode cX0_howManyLands 1 = .ok (.getfield 9, 3) := by decide +kernel
theorem dX0_howManyLands_4 : decode cX0_howManyLands 4 = .ok (.iload_n 1, 1) := by decide +kernel
theorem dX0_howManyLands_5 : decode cX0_howManyLands 5 = .ok (.iaload, 1) := by decide +kernel
theorem dX0_howManyLands_6 : decode cX0_howManyLands 6 = .ok (.invokestatic 20, 3) := by decide +kernel
theorem dX0_howManyLands_9 : decode cX0_howManyLands 9 = .ok (.ireturn, 1) := by decide +kernel
theorem dX1_init_0 : decode cX1_init 0 = .ok (.aload_n 0, 1) := by decide +kernel
theorem dX1_init_1 : decode cX1_init 1 = .ok (.invokespecial 3, 3) := by decide +kernel
theorem dX1_init_4 : decode cX1_init 4 = .ok (.aload_n 0, 1) := by decide +kernel
theorem dX1_init_5 : decode cX1_init 5 = .ok (.aload_n 1, 1) := by decide +kernel
theorem dX1_init_6 : decode cX1_init 6 = .ok (.putfield 9, 3) := by decide +kernel
theorem dX1_init_9 : decode cX1_init 9 = .ok (.return_, 1) := by decide +kernel
theorem dX1_look_0 : decode cX1_look 0 = .ok (.aload_n 0, 1) := by decide +kernel
theorem dX1_look_1 : decode cX1_look 1 = .ok (.iconst 0, 1) := by decide +kernel
theorem dX1_look_2 : decode cX1_look 2 = .ok (.putfield 15, 3) := by decide +kernel
theorem dX1_look_5 : decode cX1_look 5 = .ok (.aload_n 0, 1) := by decide +kernel
theorem dX1_look_6 : decode cX1_look 6 = .ok (.iconst 0, 1) := by decide +kernel
theorem dX1_look_7 : decode cX1_look 7 = .ok (.putfield 19, 3) := by decide +kernel
theorem dX1_look_10 : decode cX1_look 10 = .ok (.aload_n 0, 1) := by decide +kernel
theorem dX1_look_11 : decode cX1_look 11 = .ok (.iconst 0, 1) := by decide +kernel
theorem dX1_look_12 : decode cX1_look 12 = .ok (.putfield 22, 3) := by decide +kernel
theorem dX1_look_15 : decode cX1_look 15 = .ok (.iconst 0, 1) := by decide +kernel
theorem dX1_look_16 : decode cX1_look 16 = .ok (.iload_n 3, 1) := by decide +kernel
theorem dX1_look_17 : decode cX1_look 17 = .ok (.invokestatic 25, 3) := by decide +kernel
theorem dX1_look_20 : decode cX1_look 20 = .ok (.istore 5, 2) := by decide +kernel
theorem dX1_look_22 : decode cX1_look 22 = .ok (.iload 5, 2) := by decide +kernel
theorem dX1_look_24 : decode cX1_look 24 = .ok (.bipush 8, 2) := by decide +kernel
theorem dX1_look_26 : decode cX1_look 26 = .ok (.bipush 8, 2) := by decide +kernel
theorem dX1_look_28 : decode cX1_look 28 = .ok (.iload_n 3, 1) := by decide +kernel
theorem dX1_look_29 : decode cX1_look 29 = .ok (.iadd, 1) := by decide +kernel
theorem dX1_look_30 : decode cX1_look 30 = .ok (.invokestatic 31, 3) := by decide +kernel
theorem dX1_look_33 : decode cX1_look 33 = .ok (.if_icmp .ge 58, 3) := by decide +kernel
theorem dX1_look_36 : decode cX1_look 36 = .ok (.aload_n 0, 1) := by decide +kernel
theorem dX1_look_37 : decode cX1_look 37 = .ok (.getfield 9, 3) := by decide +kernel
theorem dX1_look_40 : decode cX1_look 40 = .ok (.iload_n 1, 1) := by decide +kernel
theorem dX1_look_41 : decode cX1_look 41 = .ok (.iload 5, 2) := by decide +kernel
theorem dX1_look_43 : decode cX1_look 43 = .ok (.invokevirtual 34, 3) := by decide +kernel
theorem dX1_look_46 : decode cX1_look 46 = .ok (.istore 6, 2) := by decide +kernel
theorem dX1_look_48 : decode cX1_look 48 = .ok (.aload_n 0, 1) := by decide +kernel
theorem dX1_look_49 : decode cX1_look 49 = .ok (.getfield 9, 3) := by decide +kernel
theorem dX1_look_52 : decode cX1_look 52 = .ok (.iload_n 2, 1) := by decide +kernel
theorem dX1_look_53 : decode cX1_look 53 = .ok (.iload 5, 2) := by decide +kernel
theorem dX1_look_55 : decode cX1_look 55 = .ok (.iload_n 3, 1) := by decide +kernel
theorem dX1_look_56 : decode cX1_look 56 = .ok (.isub, 1) := by decide +kernel
theorem dX1_look_57 : decode cX1_look 57 = .ok (.invokevirtual 34, 3) := by decide +kernel
theorem dX1_look_60 : decode cX1_look 60 = .ok (.iload 4, 2) := by decide +kernel
theorem dX1_look_62 : decode cX1_look 62 = .ok (.invokestatic 39, 3) := by decide +kernel
theorem dX1_look_65 : decode cX1_look 65 = .ok (.istore 7, 2) := by decide +kernel
theorem dX1_look_67 : decode cX1_look 67 = .ok (.iload 6, 2) := by decide +kernel
theorem dX1_look_69 : decode cX1_look 69 = .ok (.ifCond .eq 16, 3) := by decide +kernel
theorem dX1_look_72 : decode cX1_look 72 = .ok (.iload 7, 2) := by decide +kernel
theorem dX1_look_74 : decode cX1_look 74 = .ok (.ifCond .eq 11, 3) := by decide +kernel
theorem dX1_look_77 : decode cX1_look 77 = .ok (.aload_n 0, 1) := by decide +kernel
theorem dX1_look_78 : decode cX1_look 78 = .ok (.iload 6, 2) := by decide +kernel
theorem dX1_look_80 : decode cX1_look 80 = .ok (.iload 7, 2) := by decide +kernel
theorem dX1_look_82 : decode cX1_look 82 = .ok (.invokevirtual 42, 3) := by decide +kernel
theorem dX1_look_85 : decode cX1_look 85 = .ok (.iinc 5 1, 3) := by decide +kernel
theorem dX1_look_88 : decode cX1_look 88 = .ok (.goto (-66), 3) := by decide +kernel
theorem dX1_look_91 : decode cX1_look 91 = .ok (.return_, 1) := by decide +kernel
theorem dX1_lookAtRow_0 : decode cX1_lookAtRow 0 = .ok (.aload_n 0, 1) := by decide +kernel
theorem dX1_lookAtRow_1 : decode cX1_lookAtRow 1 = .ok (.dup, 1) := by decide +kernel
theorem dX1_lookAtRow_2 : decode cX1_lookAtRow 2 = .ok (.getfield 15, 3) := by decide +kernel
theorem dX1_lookAtRow_5 : decode cX1_lookAtRow 5 = .ok (.iload_n 1, 1) := by decide +kernel
theorem dX1_lookAtRow_6 : decode cX1_lookAtRow 6 = .ok (.iload_n 2, 1) := by decide +kernel
theorem dX1_lookAtRow_7 : decode cX1_lookAtRow 7 = .ok (.iand, 1) := by decide +kernel
theorem dX1_lookAtRow_8 : decode cX1_lookAtRow 8 = .ok (.invokestatic 46, 3) := by decide +kernel
theorem dX1_lookAtRow_11 : decode cX1_lookAtRow 11 = .ok (.iadd, 1) := by decide +kernel
theorem dX1_lookAtRow_12 : decode cX1_lookAtRow 12 = .ok (.putfield 15, 3) := by decide +kernel
theorem dX1_lookAtRow_15 : decode cX1_lookAtRow 15 = .ok (.aload_n 0, 1) := by decide +kernel
theorem dX1_lookAtRow_16 : decode cX1_lookAtRow 16 = .ok (.dup, 1) := by decide +kernel
theorem dX1_lookAtRow_17 : decode cX1_lookAtRow 17 = .ok (.getfield 19, 3) := by decide +kernel
theorem dX1_lookAtRow_20 : decode cX1_lookAtRow 20 = .ok (.iload_n 1, 1) := by decide +kernel
theorem dX1_lookAtRow_21 : decode cX1_lookAtRow 21 = .ok (.iload_n 2, 1) := by decide +kernel
theorem dX1_lookAtRow_22 : decode cX1_lookAtRow 22 = .ok (.iconst 1, 1) := by decide +kernel
theorem dX1_lookAtRow_23 : decode cX1_lookAtRow 23 = .ok (.invokestatic 39, 3) := by decide +kernel
theorem dX1_lookAtRow_26 : decode cX1_lookAtRow 26 = .ok (.iand, 1) := by decide +kernel
theorem dX1_lookAtRow_27 : decode cX1_lookAtRow 27 = .ok (.invokestatic 46, 3) := by decide +kernel
theorem dX1_lookAtRow_30 : decode cX1_lookAtRow 30 = .ok (.iload_n 1, 1) := by decide +kernel
theorem dX1_lookAtRow_31 : decode cX1_lookAtRow 31 = .ok (.iload_n 2, 1) := by decide +kernel
theorem dX1_lookAtRow_32 : decode cX1_lookAtRow 32 = .ok (.bipush 15, 2) := by decide +kernel
theorem dX1_lookAtRow_34 : decode cX1_lookAtRow 34 = .ok (.invokestatic 39, 3) := by decide +kernel
theorem dX1_lookAtRow_37 : decode cX1_lookAtRow 37 = .ok (.iand, 1) := by decide +kernel
theorem dX1_lookAtRow_38 : decode cX1_lookAtRow 38 = .ok (.invokestatic 46, 3) := by decide +kernel
theorem dX1_lookAtRow_41 : decode cX1_lookAtRow 41 = .ok (.iadd, 1) := by decide +kernel
theorem dX1_lookAtRow_42 : decode cX1_lookAtRow 42 = .ok (.iadd, 1) := by decide +kernel
theorem dX1_lookAtRow_43 : decode cX1_lookAtRow 43 = .ok (.putfield 19, 3) := by decide +kernel
theorem dX1_lookAtRow_46 : decode cX1_lookAtRow 46 = .ok (.iload_n 1, 1) := by decide +kernel
theorem dX1_lookAtRow_47 : decode cX1_lookAtRow 47 = .ok (.iload_n 2, 1) := by decide +kernel
theorem dX1_lookAtRow_48 : decode cX1_lookAtRow 48 = .ok (.ior, 1) := by decide +kernel
theorem dX1_lookAtRow_49 : decode cX1_lookAtRow 49 = .ok (.iconst (-1), 1) := by decide +kernel
theorem dX1_lookAtRow_50 : decode cX1_lookAtRow 50 = .ok (.ixor, 1) := by decide +kernel
theorem dX1_lookAtRow_51 : decode cX1_lookAtRow 51 = .ok (.ldc 52, 2) := by decide +kernel
theorem dX1_lookAtRow_53 : decode cX1_lookAtRow 53 = .ok (.iand, 1) := by decide +kernel
theorem dX1_lookAtRow_54 : decode cX1_lookAtRow 54 = .ok (.istore_n 3, 1) := by decide +kernel
theorem dX1_lookAtRow_55 : decode cX1_lookAtRow 55 = .ok (.ldc 52, 2) := by decide +kernel
theorem dX1_lookAtRow_57 : decode cX1_lookAtRow 57 = .ok (.istore 4, 2) := by decide +kernel
theorem dX1_lookAtRow_59 : decode cX1_lookAtRow 59 = .ok (.iconst 1, 1) := by decide +kernel
theorem dX1_lookAtRow_60 : decode cX1_lookAtRow 60 = .ok (.istore 5, 2) := by decide +kernel
theorem dX1_lookAtRow_62 : decode cX1_lookAtRow 62 = .ok (.iload 5, 2) := by decide +kernel
theorem dX1_lookAtRow_64 : decode cX1_lookAtRow 64 = .ok (.iconst 3, 1) := by decide +kernel
theorem dX1_lookAtRow_65 : decode cX1_lookAtRow 65 = .ok (.if_icmp .gt 71, 3) := by decide +kernel
theorem dX1_lookAtRow_68 : decode cX1_lookAtRow 68 = .ok (.iload 4, 2) := by decide +kernel
theorem dX1_lookAtRow_70 : decode cX1_lookAtRow 70 = .ok (.iload_n 3, 1) := by decide +kernel
theorem dX1_lookAtRow_71 : decode cX1_lookAtRow 71 = .ok (.bipush 16, 2) := by decide +kernel
theorem dX1_lookAtRow_73 : decode cX1_lookAtRow 73 = .ok (.iload 5, 2) := by decide +kernel
theorem dX1_lookAtRow_75 : decode cX1_lookAtRow 75 = .ok (.isub, 1) := by decide +kernel
theorem dX1_lookAtRow_76 : decode cX1_lookAtRow 76 = .ok (.invokestatic 39, 3) := by decide +kernel
theorem dX1_lookAtRow_79 : decode cX1_lookAtRow 79 = .ok (.iand, 1) := by decide +kernel
theorem dX1_lookAtRow_80 : decode cX1_lookAtRow 80 = .ok (.istore 4, 2) := by decide +kernel
theorem dX1_lookAtRow_82 : decode cX1_lookAtRow 82 = .ok (.bipush 16, 2) := by decide +kernel
theorem dX1_lookAtRow_84 : decode cX1_lookAtRow 84 = .ok (.iload 5, 2) := by decide +kernel
theorem dX1_lookAtRow_86 : decode cX1_lookAtRow 86 = .ok (.isub, 1) := by decide +kernel
theorem dX1_lookAtRow_87 : decode cX1_lookAtRow 87 = .ok (.iconst 1, 1) := by decide +kernel
theorem dX1_lookAtRow_88 : decode cX1_lookAtRow 88 = .ok (.isub, 1) := by decide +kernel
theorem dX1_lookAtRow_89 : decode cX1_lookAtRow 89 = .ok (.istore 6, 2) := by decide +kernel
theorem dX1_lookAtRow_91 : decode cX1_lookAtRow 91 = .ok (.iload_n 1, 1) := by decide +kernel
theorem dX1_lookAtRow_92 : decode cX1_lookAtRow 92 = .ok (.iload_n 2, 1) := by decide +kernel
theorem dX1_lookAtRow_93 : decode cX1_lookAtRow 93 = .ok (.iload 6, 2) := by decide +kernel
theorem dX1_lookAtRow_95 : decode cX1_lookAtRow 95 = .ok (.invokestatic 39, 3) := by decide +kernel
theorem dX1_lookAtRow_98 : decode cX1_lookAtRow 98 = .ok (.iand, 1) := by decide +kernel
theorem dX1_lookAtRow_99 : decode cX1_lookAtRow 99 = .ok (.iload_n 2, 1) := by decide +kernel
theorem dX1_lookAtRow_100 : decode cX1_lookAtRow 100 = .ok (.iload_n 1, 1) := by decide +kernel
theorem dX1_lookAtRow_101 : decode cX1_lookAtRow 101 = .ok (.iload 6, 2) := by decide +kernel
theorem dX1_lookAtRow_103 : decode cX1_lookAtRow 103 = .ok (.invokestatic 39, 3) := by decide +kernel
theorem dX1_lookAtRow_106 : decode cX1_lookAtRow 106 = .ok (.iand, 1) := by decide +kernel
theorem dX1_lookAtRow_107 : decode cX1_lookAtRow 107 = .ok (.ior, 1) := by decide +kernel
theorem dX1_lookAtRow_108 : decode cX1_lookAtRow 108 = .ok (.istore 7, 2) := by decide +kernel
theorem dX1_lookAtRow_110 : decode cX1_lookAtRow 110 = .ok (.aload_n 0, 1) := by decide +kernel
theorem dX1_lookAtRow_111 : decode cX1_lookAtRow 111 = .ok (.dup, 1) := by decide +kernel
theorem dX1_lookAtRow_112 : decode cX1_lookAtRow 112 = .ok (.getfield 22, 3) := by decide +kernel
theorem dX1_lookAtRow_115 : decode cX1_lookAtRow 115 = .ok (.iload 5, 2) := by decide +kernel
theorem dX1_lookAtRow_117 : decode cX1_lookAtRow 117 = .ok (.iload 4, 2) := by decide +kernel
theorem dX1_lookAtRow_119 : decode cX1_lookAtRow 119 = .ok (.iload 7, 2) := by decide +kernel
theorem dX1_lookAtRow_121 : decode cX1_lookAtRow 121 = .ok (.iand, 1) := by decide +kernel
theorem dX1_lookAtRow_122 : decode cX1_lookAtRow 122 = .ok (.invokestatic 46, 3) := by decide +kernel
theorem dX1_lookAtRow_125 : decode cX1_lookAtRow 125 = .ok (.imul, 1) := by decide +kernel
theorem dX1_lookAtRow_126 : decode cX1_lookAtRow 126 = .ok (.iadd, 1) := by decide +kernel
theorem dX1_lookAtRow_127 : decode cX1_lookAtRow 127 = .ok (.putfield 22, 3) := by decide +kernel
theorem dX1_lookAtRow_130 : decode cX1_lookAtRow 130 = .ok (.iinc 5 1, 3) := by decide +kernel
theorem dX1_lookAtRow_133 : decode cX1_lookAtRow 133 = .ok (.goto (-71), 3) := by decide +kernel
theorem dX1_lookAtRow_136 : decode cX1_lookAtRow 136 = .ok (.return_, 1) := by decide +kernel
theorem dX1_price_0 : decode cX1_price 0 = .ok (.iconst 3, 1) := by decide +kernel
theorem dX1_price_1 : decode cX1_price 1 = .ok (.aload_n 0, 1) := by decide +kernel
theorem dX1_price_2 : decode cX1_price 2 = .ok (.getfield 15, 3) := by decide +kernel
theorem dX1_price_5 : decode cX1_price 5 = .ok (.imul, 1) := by decide +kernel
theorem dX1_price_6 : decode cX1_price 6 = .ok (.aload_n 0, 1) := by decide +kernel
theorem dX1_price_7 : decode cX1_price 7 = .ok (.getfield 22, 3) := by decide +kernel
theorem dX1_price_10 : decode cX1_price 10 = .ok (.iadd, 1) := by decide +kernel
theorem dX1_price_11 : decode cX1_price 11 = .ok (.aload_n 0, 1) := by decide +kernel
theorem dX1_price_12 : decode cX1_price 12 = .ok (.getfield 19, 3) := by decide +kernel
theorem dX1_price_15 : decode cX1_price 15 = .ok (.isub, 1) := by decide +kernel
theorem dX1_price_16 : decode cX1_price 16 = .ok (.ireturn, 1) := by decide +kernel
theorem dX1_isCounted_0 : decode cX1_isCounted 0 = .ok (.aload_n 0, 1) := by decide +kernel
theorem dX1_isCounted_1 : decode cX1_isCounted 1 = .ok (.getfield 19, 3) := by decide +kernel
theorem dX1_isCounted_4 : decode cX1_isCounted 4 = .ok (.aload_n 0, 1) := by decide +kernel
theorem dX1_isCounted_5 : decode cX1_isCounted 5 = .ok (.getfield 15, 3) := by decide +kernel
theorem dX1_isCounted_8 : decode cX1_isCounted 8 = .ok (.iadd, 1) := by decide +kernel
theorem dX1_isCounted_9 : decode cX1_isCounted 9 = .ok (.iconst 1, 1) := by decide +kernel
theorem dX1_isCounted_10 : decode cX1_isCounted 10 = .ok (.if_icmp .lt 7, 3) := by decide +kernel
theorem dX1_isCounted_13 : decode cX1_isCounted 13 = .ok (.iconst 1, 1) := by decide +kernel
theorem dX1_isCounted_14 : decode cX1_isCounted 14 = .ok (.goto 4, 3) := by decide +kernel
theorem dX1_isCounted_17 : decode cX1_isCounted 17 = .ok (.iconst 0, 1) := by decide +kernel
theorem dX1_isCounted_18 : decode cX1_isCounted 18 = .ok (.ireturn, 1) := by decide +kernel
theorem dX1_survey_0 : decode cX1_survey 0 = .ok (.aload_n 0, 1) := by decide +kernel
theorem dX1_survey_1 : decode cX1_survey 1 = .ok (.iconst 0, 1) := by decide +kernel
theorem dX1_survey_2 : decode cX1_survey 2 = .ok (.putfield 53, 3) := by decide +kernel
theorem dX1_survey_5 : decode cX1_survey 5 = .ok (.aload_n 0, 1) := by decide +kernel
theorem dX1_survey_6 : decode cX1_survey 6 = .ok (.iconst 0, 1) := by decide +kernel
theorem dX1_survey_7 : decode cX1_survey 7 = .ok (.putfield 56, 3) := by decide +kernel
theorem dX1_survey_10 : decode cX1_survey 10 = .ok (.bipush (-7), 2) := by decide +kernel
theorem dX1_survey_12 : decode cX1_survey 12 = .ok (.istore 4, 2) := by decide +kernel
theorem dX1_survey_14 : decode cX1_survey 14 = .ok (.iload 4, 2) := by decide +kernel
theorem dX1_survey_16 : decode cX1_survey 16 = .ok (.bipush 7, 2) := by decide +kernel
theorem dX1_survey_18 : decode cX1_survey 18 = .ok (.if_icmp .gt 31, 3) := by decide +kernel
theorem dX1_survey_21 : decode cX1_survey 21 = .ok (.aload_n 0, 1) := by decide +kernel
theorem dX1_survey_22 : decode cX1_survey 22 = .ok (.getfield 9, 3) := by decide +kernel
theorem dX1_survey_25 : decode cX1_survey 25 = .ok (.iload_n 2, 1) := by decide +kernel
theorem dX1_survey_26 : decode cX1_survey 26 = .ok (.iload 4, 2) := by decide +kernel
theorem dX1_survey_28 : decode cX1_survey 28 = .ok (.invokevirtual 59, 3) := by decide +kernel
theorem dX1_survey_31 : decode cX1_survey 31 = .ok (.ifCond .eq 12, 3) := by decide +kernel
theorem dX1_survey_34 : decode cX1_survey 34 = .ok (.aload_n 0, 1) := by decide +kernel
theorem dX1_survey_35 : decode cX1_survey 35 = .ok (.iload_n 1, 1) := by decide +kernel
theorem dX1_survey_36 : decode cX1_survey 36 = .ok (.iload_n 2, 1) := by decide +kernel
theorem dX1_survey_37 : decode cX1_survey 37 = .ok (.iload 4, 2) := by decide +kernel
theorem dX1_survey_39 : decode cX1_survey 39 = .ok (.iload_n 3, 1) := by decide +kernel
theorem dX1_survey_40 : decode cX1_survey 40 = .ok (.invokevirtual 63, 3) := by decide +kernel
theorem dX1_survey_43 : decode cX1_survey 43 = .ok (.iinc 4 1, 3) := by decide +kernel
theorem dX1_survey_46 : decode cX1_survey 46 = .ok (.goto (-32), 3) := by decide +kernel
theorem dX1_survey_49 : decode cX1_survey 49 = .ok (.return_, 1) := by decide +kernel
theorem dX1_surveyRing_0 : decode cX1_surveyRing 0 = .ok (.iconst 0, 1) := by decide +kernel
theorem dX1_surveyRing_1 : decode cX1_surveyRing 1 = .ok (.istore 5, 2) := by decide +kernel
theorem dX1_surveyRing_3 : decode cX1_surveyRing 3 = .ok (.iload 5, 2) := by decide +kernel
theorem dX1_surveyRing_5 : decode cX1_surveyRing 5 = .ok (.bipush 16, 2) := by decide +kernel
theorem dX1_surveyRing_7 : decode cX1_surveyRing 7 = .ok (.if_icmp .ge 34, 3) := by decide +kernel
theorem dX1_surveyRing_10 : decode cX1_surveyRing 10 = .ok (.aload_n 0, 1) := by decide +kernel
theorem dX1_surveyRing_11 : decode cX1_surveyRing 11 = .ok (.iload_n 1, 1) := by decide +kernel
theorem dX1_surveyRing_12 : decode cX1_surveyRing 12 = .ok (.iload_n 2, 1) := by decide +kernel
theorem dX1_surveyRing_13 : decode cX1_surveyRing 13 = .ok (.iload_n 3, 1) := by decide +kernel
theorem dX1_surveyRing_14 : decode cX1_surveyRing 14 = .ok (.iload 5, 2) := by decide +kernel
theorem dX1_surveyRing_16 : decode cX1_surveyRing 16 = .ok (.invokevirtual 67, 3) := by decide +kernel
theorem dX1_surveyRing_19 : decode cX1_surveyRing 19 = .ok (.aload_n 0, 1) := by decide +kernel
theorem dX1_surveyRing_20 : decode cX1_surveyRing 20 = .ok (.invokevirtual 70, 3) := by decide +kernel
theorem dX1_surveyRing_23 : decode cX1_surveyRing 23 = .ok (.ifCond .eq 12, 3) := by decide +kernel
theorem dX1_surveyRing_26 : decode cX1_surveyRing 26 = .ok (.aload_n 0, 1) := by decide +kernel
theorem dX1_surveyRing_27 : decode cX1_surveyRing 27 = .ok (.iload_n 3, 1) := by decide +kernel
theorem dX1_surveyRing_28 : decode cX1_surveyRing 28 = .ok (.iload 5, 2) := by decide +kernel
theorem dX1_surveyRing_30 : decode cX1_surveyRing 30 = .ok (.iload 4, 2) := by decide +kernel
theorem dX1_surveyRing_32 : decode cX1_surveyRing 32 = .ok (.invokevirtual 74, 3) := by decide +kernel
theorem dX1_surveyRing_35 : decode cX1_surveyRing 35 = .ok (.iinc 5 1, 3) := by decide +kernel
theorem dX1_surveyRing_38 : decode cX1_surveyRing 38 = .ok (.goto (-35), 3) := by decide +kernel
theorem dX1_surveyRing_41 : decode cX1_surveyRing 41 = .ok (.return_, 1) := by decide +kernel
theorem dX1_take_0 : decode cX1_take 0 = .ok (.aload_n 0, 1) := by decide +kernel
theorem dX1_take_1 : decode cX1_take 1 = .ok (.invokevirtual 78, 3) := by decide +kernel
theorem dX1_take_4 : decode cX1_take 4 = .ok (.istore 4, 2) := by decide +kernel
theorem dX1_take_6 : decode cX1_take 6 = .ok (.aload_n 0, 1) := by decide +kernel
theorem dX1_take_7 : decode cX1_take 7 = .ok (.getfield 53, 3) := by decide +kernel
theorem dX1_take_10 : decode cX1_take 10 = .ok (.ifCond .eq 12, 3) := by decide +kernel
theorem dX1_take_13 : decode cX1_take 13 = .ok (.iload 4, 2) := by decide +kernel
theorem dX1_take_15 : decode cX1_take 15 = .ok (.aload_n 0, 1) := by decide +kernel
theorem dX1_take_16 : decode cX1_take 16 = .ok (.getfield 82, 3) := by decide +kernel
theorem dX1_take_19 : decode cX1_take 19 = .ok (.if_icmp .ge 19, 3) := by decide +kernel
theorem dX1_take_22 : decode cX1_take 22 = .ok (.aload_n 0, 1) := by decide +kernel
theorem dX1_take_23 : decode cX1_take 23 = .ok (.iload 4, 2) := by decide +kernel
theorem dX1_take_25 : decode cX1_take 25 = .ok (.putfield 82, 3) := by decide +kernel
theorem dX1_take_28 : decode cX1_take 28 = .ok (.aload_n 0, 1) := by decide +kernel
theorem dX1_take_29 : decode cX1_take 29 = .ok (.iload_n 1, 1) := by decide +kernel
theorem dX1_take_30 : decode cX1_take 30 = .ok (.putfield 85, 3) := by decide +kernel
theorem dX1_take_33 : decode cX1_take 33 = .ok (.aload_n 0, 1) := by decide +kernel
theorem dX1_take_34 : decode cX1_take 34 = .ok (.iload_n 2, 1) := by decide +kernel
theorem dX1_take_35 : decode cX1_take 35 = .ok (.putfield 88, 3) := by decide +kernel
theorem dX1_take_38 : decode cX1_take 38 = .ok (.aload_n 0, 1) := by decide +kernel
theorem dX1_take_39 : decode cX1_take 39 = .ok (.dup, 1) := by decide +kernel
theorem dX1_take_40 : decode cX1_take 40 = .ok (.getfield 53, 3) := by decide +kernel
theorem dX1_take_43 : decode cX1_take 43 = .ok (.iconst 1, 1) := by decide +kernel
theorem dX1_take_44 : decode cX1_take 44 = .ok (.iadd, 1) := by decide +kernel
theorem dX1_take_45 : decode cX1_take 45 = .ok (.putfield 53, 3) := by decide +kernel
theorem dX1_take_48 : decode cX1_take 48 = .ok (.iload 4, 2) := by decide +kernel
theorem dX1_take_50 : decode cX1_take 50 = .ok (.iload_n 3, 1) := by decide +kernel
theorem dX1_take_51 : decode cX1_take 51 = .ok (.if_icmp .gt 13, 3) := by decide +kernel
theorem dX1_take_54 : decode cX1_take 54 = .ok (.aload_n 0, 1) := by decide +kernel
theorem dX1_take_55 : decode cX1_take 55 = .ok (.dup, 1) := by decide +kernel
theorem dX1_take_56 : decode cX1_take 56 = .ok (.getfield 56, 3) := by decide +kernel
theorem dX1_take_59 : decode cX1_take 59 = .ok (.iconst 1, 1) := by decide +kernel
theorem dX1_take_60 : decode cX1_take 60 = .ok (.iadd, 1) := by decide +kernel
theorem dX1_take_61 : decode cX1_take 61 = .ok (.putfield 56, 3) := by decide +kernel
theorem dX1_take_64 : decode cX1_take 64 = .ok (.return_, 1) := by decide +kernel
theorem dX2_init_0 : decode cX2_init 0 = .ok (.aload_n 0, 1) := by decide +kernel
theorem dX2_init_1 : decode cX2_init 1 = .ok (.invokespecial 3, 3) := by decide +kernel
theorem dX2_init_4 : decode cX2_init 4 = .ok (.aload_n 0, 1) := by decide +kernel
theorem dX2_init_5 : decode cX2_init 5 = .ok (.sipush 128, 3) := by decide +kernel
theorem dX2_init_8 : decode cX2_init 8 = .ok (.newarray .int, 2) := by decide +kernel
theorem dX2_init_10 : decode cX2_init 10 = .ok (.putfield 9, 3) := by decide +kernel
theorem dX2_init_13 : decode cX2_init 13 = .ok (.aload_n 0, 1) := by decide +kernel
theorem dX2_init_14 : decode cX2_init 14 = .ok (.bipush 48, 2) := by decide +kernel
theorem dX2_init_16 : decode cX2_init 16 = .ok (.newarray .int, 2) := by decide +kernel
theorem dX2_init_18 : decode cX2_init 18 = .ok (.putfield 15, 3) := by decide +kernel
theorem dX2_init_21 : decode cX2_init 21 = .ok (.aload_n 0, 1) := by decide +kernel
theorem dX2_init_22 : decode cX2_init 22 = .ok (.bipush 36, 2) := by decide +kernel
theorem dX2_init_24 : decode cX2_init 24 = .ok (.newarray .int, 2) := by decide +kernel
theorem dX2_init_26 : decode cX2_init 26 = .ok (.putfield 18, 3) := by decide +kernel
theorem dX2_init_29 : decode cX2_init 29 = .ok (.aload_n 0, 1) := by decide +kernel
theorem dX2_init_30 : decode cX2_init 30 = .ok (.getfield 9, 3) := by decide +kernel
theorem dX2_init_33 : decode cX2_init 33 = .ok (.iconst (-1), 1) := by decide +kernel
theorem dX2_init_34 : decode cX2_init 34 = .ok (.invokestatic 21, 3) := by decide +kernel
theorem dX2_init_37 : decode cX2_init 37 = .ok (.return_, 1) := by decide +kernel
theorem dX2_ownerOf_0 : decode cX2_ownerOf 0 = .ok (.aload_n 0, 1) := by decide +kernel
theorem dX2_ownerOf_1 : decode cX2_ownerOf 1 = .ok (.getfield 9, 3) := by decide +kernel
theorem dX2_ownerOf_4 : decode cX2_ownerOf 4 = .ok (.iload_n 1, 1) := by decide +kernel
theorem dX2_ownerOf_5 : decode cX2_ownerOf 5 = .ok (.iaload, 1) := by decide +kernel
theorem dX2_ownerOf_6 : decode cX2_ownerOf 6 = .ok (.ireturn, 1) := by decide +kernel
theorem dX2_maskOf_0 : decode cX2_maskOf 0 = .ok (.aload_n 0, 1) := by decide +kernel
theorem dX2_maskOf_1 : decode cX2_maskOf 1 = .ok (.getfield 15, 3) := by decide +kernel
theorem dX2_maskOf_4 : decode cX2_maskOf 4 = .ok (.iload_n 1, 1) := by decide +kernel
theorem dX2_maskOf_5 : decode cX2_maskOf 5 = .ok (.bipush 8, 2) := by decide +kernel
theorem dX2_maskOf_7 : decode cX2_maskOf 7 = .ok (.imul, 1) := by decide +kernel
theorem dX2_maskOf_8 : decode cX2_maskOf 8 = .ok (.iload_n 2, 1) := by decide +kernel
theorem dX2_maskOf_9 : decode cX2_maskOf 9 = .ok (.iadd, 1) := by decide +kernel
theorem dX2_maskOf_10 : decode cX2_maskOf 10 = .ok (.iaload, 1) := by decide +kernel
theorem dX2_maskOf_11 : decode cX2_maskOf 11 = .ok (.ireturn, 1) := by decide +kernel
theorem dX2_give_0 : decode cX2_give 0 = .ok (.iload_n 1, 1) := by decide +kernel
theorem dX2_give_1 : decode cX2_give 1 = .ok (.bipush 16, 2) := by decide +kernel
theorem dX2_give_3 : decode cX2_give 3 = .ok (.idiv, 1) := by decide +kernel
theorem dX2_give_4 : decode cX2_give 4 = .ok (.istore_n 3, 1) := by decide +kernel
theorem dX2_give_5 : decode cX2_give 5 = .ok (.iconst 1, 1) := by decide +kernel
theorem dX2_give_6 : decode cX2_give 6 = .ok (.iload_n 1, 1) := by decide +kernel
theorem dX2_give_7 : decode cX2_give 7 = .ok (.bipush 16, 2) := by decide +kernel
theorem dX2_give_9 : decode cX2_give 9 = .ok (.irem, 1) := by decide +kernel
theorem dX2_give_10 : decode cX2_give 10 = .ok (.ishl, 1) := by decide +kernel
theorem dX2_give_11 : decode cX2_give 11 = .ok (.istore 4, 2) := by decide +kernel
theorem dX2_give_13 : decode cX2_give 13 = .ok (.aload_n 0, 1) := by decide +kernel
theorem dX2_give_14 : decode cX2_give 14 = .ok (.getfield 9, 3) := by decide +kernel
theorem dX2_give_17 : decode cX2_give 17 = .ok (.iload_n 1, 1) := by decide +kernel
theorem dX2_give_18 : decode cX2_give 18 = .ok (.iaload, 1) := by decide +kernel
theorem dX2_give_19 : decode cX2_give 19 = .ok (.iconst (-1), 1) := by decide +kernel
theorem dX2_give_20 : decode cX2_give 20 = .ok (.if_icmp .eq 26, 3) := by decide +kernel
theorem dX2_give_23 : decode cX2_give 23 = .ok (.aload_n 0, 1) := by decide +kernel
theorem dX2_give_24 : decode cX2_give 24 = .ok (.getfield 15, 3) := by decide +kernel
theorem dX2_give_27 : decode cX2_give 27 = .ok (.aload_n 0, 1) := by decide +kernel
theorem dX2_give_28 : decode cX2_give 28 = .ok (.getfield 9, 3) := by decide +kernel
theorem dX2_give_31 : decode cX2_give 31 = .ok (.iload_n 1, 1) := by decide +kernel
theorem dX2_give_32 : decode cX2_give 32 = .ok (.iaload, 1) := by decide +kernel
theorem dX2_give_33 : decode cX2_give 33 = .ok (.bipush 8, 2) := by decide +kernel
theorem dX2_give_35 : decode cX2_give 35 = .ok (.imul, 1) := by decide +kernel
theorem dX2_give_36 : decode cX2_give 36 = .ok (.iload_n 3, 1) := by decide +kernel
theorem dX2_give_37 : decode cX2_give 37 = .ok (.iadd, 1) := by decide +kernel
theorem dX2_give_38 : decode cX2_give 38 = .ok (.dup2, 1) := by decide +kernel
theorem dX2_give_39 : decode cX2_give 39 = .ok (.iaload, 1) := by decide +kernel
theorem dX2_give_40 : decode cX2_give 40 = .ok (.iload 4, 2) := by decide +kernel
theorem dX2_give_42 : decode cX2_give 42 = .ok (.iconst (-1), 1) := by decide +kernel
theorem dX2_give_43 : decode cX2_give 43 = .ok (.ixor, 1) := by decide +kernel
theorem dX2_give_44 : decode cX2_give 44 = .ok (.iand, 1) := by decide +kernel
theorem dX2_give_45 : decode cX2_give 45 = .ok (.iastore, 1) := by decide +kernel
theorem dX2_give_46 : decode cX2_give 46 = .ok (.iload_n 2, 1) := by decide +kernel
theorem dX2_give_47 : decode cX2_give 47 = .ok (.iconst (-1), 1) := by decide +kernel
theorem dX2_give_48 : decode cX2_give 48 = .ok (.if_icmp .eq 19, 3) := by decide +kernel
theorem dX2_give_51 : decode cX2_give 51 = .ok (.aload_n 0, 1) := by decide +kernel
theorem dX2_give_52 : decode cX2_give 52 = .ok (.getfield 15, 3) := by decide +kernel
theorem dX2_give_55 : decode cX2_give 55 = .ok (.iload_n 2, 1) := by decide +kernel
theorem dX2_give_56 : decode cX2_give 56 = .ok (.bipush 8, 2) := by decide +kernel
theorem dX2_give_58 : decode cX2_give 58 = .ok (.imul, 1) := by decide +kernel
theorem dX2_give_59 : decode cX2_give 59 = .ok (.iload_n 3, 1) := by decide +kernel
theorem dX2_give_60 : decode cX2_give 60 = .ok (.iadd, 1) := by decide +kernel
theorem dX2_give_61 : decode cX2_give 61 = .ok (.dup2, 1) := by decide +kernel
theorem dX2_give_62 : decode cX2_give 62 = .ok (.iaload, 1) := by decide +kernel
theorem dX2_give_63 : decode cX2_give 63 = .ok (.iload 4, 2) := by decide +kernel
theorem dX2_give_65 : decode cX2_give 65 = .ok (.ior, 1) := by decide +kernel
theorem dX2_give_66 : decode cX2_give 66 = .ok (.iastore, 1) := by decide +kernel
theorem dX2_give_67 : decode cX2_give 67 = .ok (.aload_n 0, 1) := by decide +kernel
theorem dX2_give_68 : decode cX2_give 68 = .ok (.getfield 9, 3) := by decide +kernel
theorem dX2_give_71 : decode cX2_give 71 = .ok (.iload_n 1, 1) := by decide +kernel
theorem dX2_give_72 : decode cX2_give 72 = .ok (.iload_n 2, 1) := by decide +kernel
theorem dX2_give_73 : decode cX2_give 73 = .ok (.iastore, 1) := by decide +kernel
theorem dX2_give_74 : decode cX2_give 74 = .ok (.aload_n 0, 1) := by decide +kernel
theorem dX2_give_75 : decode cX2_give 75 = .ok (.getfield 18, 3) := by decide +kernel
theorem dX2_give_78 : decode cX2_give 78 = .ok (.iconst 0, 1) := by decide +kernel
theorem dX2_give_79 : decode cX2_give 79 = .ok (.invokestatic 21, 3) := by decide +kernel
theorem dX2_give_82 : decode cX2_give 82 = .ok (.return_, 1) := by decide +kernel
theorem dX2_giveRun_0 : decode cX2_giveRun 0 = .ok (.iconst 0, 1) := by decide +kernel
theorem dX2_giveRun_1 : decode cX2_giveRun 1 = .ok (.istore 5, 2) := by decide +kernel
theorem dX2_giveRun_3 : decode cX2_giveRun 3 = .ok (.iconst 0, 1) := by decide +kernel
theorem dX2_giveRun_4 : decode cX2_giveRun 4 = .ok (.istore 6, 2) := by decide +kernel
theorem dX2_giveRun_6 : decode cX2_giveRun 6 = .ok (.iload 6, 2) := by decide +kernel
theorem dX2_giveRun_8 : decode cX2_giveRun 8 = .ok (.iload 4, 2) := by decide +kernel
theorem dX2_giveRun_10 : decode cX2_giveRun 10 = .ok (.if_icmp .ge 43, 3) := by decide +kernel
theorem dX2_giveRun_13 : decode cX2_giveRun 13 = .ok (.iload_n 2, 1) := by decide +kernel
theorem dX2_giveRun_14 : decode cX2_giveRun 14 = .ok (.bipush 16, 2) := by decide +kernel
theorem dX2_giveRun_16 : decode cX2_giveRun 16 = .ok (.imul, 1) := by decide +kernel
theorem dX2_giveRun_17 : decode cX2_giveRun 17 = .ok (.iload_n 3, 1) := by decide +kernel
theorem dX2_giveRun_18 : decode cX2_giveRun 18 = .ok (.iload 6, 2) := by decide +kernel
theorem dX2_giveRun_20 : decode cX2_giveRun 20 = .ok (.invokestatic 27, 3) := by decide +kernel
theorem dX2_giveRun_23 : decode cX2_giveRun 23 = .ok (.iadd, 1) := by decide +kernel
theorem dX2_giveRun_24 : decode cX2_giveRun 24 = .ok (.istore 7, 2) := by decide +kernel
theorem dX2_giveRun_26 : decode cX2_giveRun 26 = .ok (.aload_n 0, 1) := by decide +kernel
theorem dX2_giveRun_27 : decode cX2_giveRun 27 = .ok (.getfield 9, 3) := by decide +kernel
theorem dX2_giveRun_30 : decode cX2_giveRun 30 = .ok (.iload 7, 2) := by decide +kernel
theorem dX2_giveRun_32 : decode cX2_giveRun 32 = .ok (.iaload, 1) := by decide +kernel
theorem dX2_giveRun_33 : decode cX2_giveRun 33 = .ok (.iconst (-1), 1) := by decide +kernel
theorem dX2_giveRun_34 : decode cX2_giveRun 34 = .ok (.if_icmp .ne 13, 3) := by decide +kernel
theorem dX2_giveRun_37 : decode cX2_giveRun 37 = .ok (.aload_n 0, 1) := by decide +kernel
theorem dX2_giveRun_38 : decode cX2_giveRun 38 = .ok (.iload 7, 2) := by decide +kernel
theorem dX2_giveRun_40 : decode cX2_giveRun 40 = .ok (.iload_n 1, 1) := by decide +kernel
theorem dX2_giveRun_41 : decode cX2_giveRun 41 = .ok (.invokevirtual 31, 3) := by decide +kernel
theorem dX2_giveRun_44 : decode cX2_giveRun 44 = .ok (.iinc 5 1, 3) := by decide +kernel
theorem dX2_giveRun_47 : decode cX2_giveRun 47 = .ok (.iinc 6 1, 3) := by decide +kernel
theorem dX2_giveRun_50 : decode cX2_giveRun 50 = .ok (.goto (-44), 3) := by decide +kernel
theorem dX2_giveRun_53 : decode cX2_giveRun 53 = .ok (.iload 5, 2) := by decide +kernel
theorem dX2_giveRun_55 : decode cX2_giveRun 55 = .ok (.ireturn, 1) := by decide +kernel
theorem dX2_sizeOf_0 : decode cX2_sizeOf 0 = .ok (.iconst 0, 1) := by decide +kernel
theorem dX2_sizeOf_1 : decode cX2_sizeOf 1 = .ok (.istore_n 2, 1) := by decide +kernel
theorem dX2_sizeOf_2 : decode cX2_sizeOf 2 = .ok (.iconst 0, 1) := by decide +kernel
theorem dX2_sizeOf_3 : decode cX2_sizeOf 3 = .ok (.istore_n 3, 1) := by decide +kernel
theorem dX2_sizeOf_4 : decode cX2_sizeOf 4 = .ok (.iload_n 3, 1) := by decide +kernel
theorem dX2_sizeOf_5 : decode cX2_sizeOf 5 = .ok (.bipush 8, 2) := by decide +kernel
theorem dX2_sizeOf_7 : decode cX2_sizeOf 7 = .ok (.if_icmp .ge 21, 3) := by decide +kernel
theorem dX2_sizeOf_10 : decode cX2_sizeOf 10 = .ok (.iload_n 2, 1) := by decide +kernel
theorem dX2_sizeOf_11 : decode cX2_sizeOf 11 = .ok (.aload_n 0, 1) := by decide +kernel
theorem dX2_sizeOf_12 : decode cX2_sizeOf 12 = .ok (.iload_n 1, 1) := by decide +kernel
theorem dX2_sizeOf_13 : decode cX2_sizeOf 13 = .ok (.iload_n 3, 1) := by decide +kernel
theorem dX2_sizeOf_14 : decode cX2_sizeOf 14 = .ok (.invokevirtual 35, 3) := by decide +kernel
theorem dX2_sizeOf_17 : decode cX2_sizeOf 17 = .ok (.invokestatic 38, 3) := by decide +kernel
theorem dX2_sizeOf_20 : decode cX2_sizeOf 20 = .ok (.iadd, 1) := by decide +kernel
theorem dX2_sizeOf_21 : decode cX2_sizeOf 21 = .ok (.istore_n 2, 1) := by decide +kernel
theorem dX2_sizeOf_22 : decode cX2_sizeOf 22 = .ok (.iinc 3 1, 3) := by decide +kernel
theorem dX2_sizeOf_25 : decode cX2_sizeOf 25 = .ok (.goto (-21), 3) := by decide +kernel
theorem dX2_sizeOf_28 : decode cX2_sizeOf 28 = .ok (.iload_n 2, 1) := by decide +kernel
theorem dX2_sizeOf_29 : decode cX2_sizeOf 29 = .ok (.ireturn, 1) := by decide +kernel
theorem dX2_sizeOfAll_0 : decode cX2_sizeOfAll 0 = .ok (.iconst 0, 1) := by decide +kernel
theorem dX2_sizeOfAll_1 : decode cX2_sizeOfAll 1 = .ok (.istore_n 1, 1) := by decide +kernel
theorem dX2_sizeOfAll_2 : decode cX2_sizeOfAll 2 = .ok (.iconst 0, 1) := by decide +kernel
theorem dX2_sizeOfAll_3 : decode cX2_sizeOfAll 3 = .ok (.istore_n 2, 1) := by decide +kernel
theorem dX2_sizeOfAll_4 : decode cX2_sizeOfAll 4 = .ok (.iload_n 2, 1) := by decide +kernel
theorem dX2_sizeOfAll_5 : decode cX2_sizeOfAll 5 = .ok (.bipush 6, 2) := by decide +kernel
theorem dX2_sizeOfAll_7 : decode cX2_sizeOfAll 7 = .ok (.if_icmp .ge 17, 3) := by decide +kernel
theorem dX2_sizeOfAll_10 : decode cX2_sizeOfAll 10 = .ok (.iload_n 1, 1) := by decide +kernel
theorem dX2_sizeOfAll_11 : decode cX2_sizeOfAll 11 = .ok (.aload_n 0, 1) := by decide +kernel
theorem dX2_sizeOfAll_12 : decode cX2_sizeOfAll 12 = .ok (.iload_n 2, 1) := by decide +kernel
theorem dX2_sizeOfAll_13 : decode cX2_sizeOfAll 13 = .ok (.invokevirtual 44, 3) := by decide +kernel
theorem dX2_sizeOfAll_16 : decode cX2_sizeOfAll 16 = .ok (.iadd, 1) := by decide +kernel
theorem dX2_sizeOfAll_17 : decode cX2_sizeOfAll 17 = .ok (.istore_n 1, 1) := by decide +kernel
theorem dX2_sizeOfAll_18 : decode cX2_sizeOfAll 18 = .ok (.iinc 2 1, 3) := by decide +kernel
theorem dX2_sizeOfAll_21 : decode cX2_sizeOfAll 21 = .ok (.goto (-17), 3) := by decide +kernel
theorem dX2_sizeOfAll_24 : decode cX2_sizeOfAll 24 = .ok (.iload_n 1, 1) := by decide +kernel
theorem dX2_sizeOfAll_25 : decode cX2_sizeOfAll 25 = .ok (.ireturn, 1) := by decide +kernel
theorem dX2_leastCellOf_0 : decode cX2_leastCellOf 0 = .ok (.iconst 0, 1) := by decide +kernel
theorem dX2_leastCellOf_1 : decode cX2_leastCellOf 1 = .ok (.istore_n 2, 1) := by decide +kernel
theorem dX2_leastCellOf_2 : decode cX2_leastCellOf 2 = .ok (.iload_n 2, 1) := by decide +kernel
theorem dX2_leastCellOf_3 : decode cX2_leastCellOf 3 = .ok (.bipush 8, 2) := by decide +kernel
theorem dX2_leastCellOf_5 : decode cX2_leastCellOf 5 = .ok (.if_icmp .ge 30, 3) := by decide +kernel
theorem dX2_leastCellOf_8 : decode cX2_leastCellOf 8 = .ok (.aload_n 0, 1) := by decide +kernel
theorem dX2_leastCellOf_9 : decode cX2_leastCellOf 9 = .ok (.iload_n 1, 1) := by decide +kernel
theorem dX2_leastCellOf_10 : decode cX2_leastCellOf 10 = .ok (.iload_n 2, 1) := by decide +kernel
theorem dX2_leastCellOf_11 : decode cX2_leastCellOf 11 = .ok (.invokevirtual 35, 3) := by decide +kernel
theorem dX2_leastCellOf_14 : decode cX2_leastCellOf 14 = .ok (.istore_n 3, 1) := by decide +kernel
theorem dX2_leastCellOf_15 : decode cX2_leastCellOf 15 = .ok (.iload_n 3, 1) := by decide +kernel
theorem dX2_leastCellOf_16 : decode cX2_leastCellOf 16 = .ok (.ifCond .eq 13, 3) := by decide +kernel
theorem dX2_leastCellOf_19 : decode cX2_leastCellOf 19 = .ok (.iload_n 2, 1) := by decide +kernel
theorem dX2_leastCellOf_20 : decode cX2_leastCellOf 20 = .ok (.bipush 16, 2) := by decide +kernel
theorem dX2_leastCellOf_22 : decode cX2_leastCellOf 22 = .ok (.imul, 1) := by decide +kernel
theorem dX2_leastCellOf_23 : decode cX2_leastCellOf 23 = .ok (.iload_n 3, 1) := by decide +kernel
theorem dX2_leastCellOf_24 : decode cX2_leastCellOf 24 = .ok (.invokestatic 47, 3) := by decide +kernel
theorem dX2_leastCellOf_27 : decode cX2_leastCellOf 27 = .ok (.iadd, 1) := by decide +kernel
theorem dX2_leastCellOf_28 : decode cX2_leastCellOf 28 = .ok (.ireturn, 1) := by decide +kernel
theorem dX2_leastCellOf_29 : decode cX2_leastCellOf 29 = .ok (.iinc 2 1, 3) := by decide +kernel
theorem dX2_leastCellOf_32 : decode cX2_leastCellOf 32 = .ok (.goto (-30), 3) := by decide +kernel
theorem dX2_leastCellOf_35 : decode cX2_leastCellOf 35 = .ok (.iconst (-1), 1) := by decide +kernel
theorem dX2_leastCellOf_36 : decode cX2_leastCellOf 36 = .ok (.ireturn, 1) := by decide +kernel
theorem dX2_staysInRows_0 : decode cX2_staysInRows 0 = .ok (.iconst 0, 1) := by decide +kernel
theorem dX2_staysInRows_1 : decode cX2_staysInRows 1 = .ok (.istore_n 3, 1) := by decide +kernel
theorem dX2_staysInRows_2 : decode cX2_staysInRows 2 = .ok (.iload_n 3, 1) := by decide +kernel
theorem dX2_staysInRows_3 : decode cX2_staysInRows 3 = .ok (.bipush 8, 2) := by decide +kernel
theorem dX2_staysInRows_5 : decode cX2_staysInRows 5 = .ok (.if_icmp .ge 31, 3) := by decide +kernel
theorem dX2_staysInRows_8 : decode cX2_staysInRows 8 = .ok (.aload_n 0, 1) := by decide +kernel
theorem dX2_staysInRows_9 : decode cX2_staysInRows 9 = .ok (.iload_n 1, 1) := by decide +kernel
theorem dX2_staysInRows_10 : decode cX2_staysInRows 10 = .ok (.iload_n 3, 1) := by decide +kernel
theorem dX2_staysInRows_11 : decode cX2_staysInRows 11 = .ok (.invokevirtual 35, 3) := by decide +kernel
theorem dX2_staysInRows_14 : decode cX2_staysInRows 14 = .ok (.ifCond .eq 16, 3) := by decide +kernel
theorem dX2_staysInRows_17 : decode cX2_staysInRows 17 = .ok (.iload_n 3, 1) := by decide +kernel
theorem dX2_staysInRows_18 : decode cX2_staysInRows 18 = .ok (.iload_n 2, 1) := by decide +kernel
theorem dX2_staysInRows_19 : decode cX2_staysInRows 19 = .ok (.iadd, 1) := by decide +kernel
theorem dX2_staysInRows_20 : decode cX2_staysInRows 20 = .ok (.bipush 8, 2) := by decide +kernel
theorem dX2_staysInRows_22 : decode cX2_staysInRows 22 = .ok (.invokestatic 50, 3) := by decide +kernel
theorem dX2_staysInRows_25 : decode cX2_staysInRows 25 = .ok (.ifCond .ne 5, 3) := by decide +kernel
theorem dX2_staysInRows_28 : decode cX2_staysInRows 28 = .ok (.iconst 0, 1) := by decide +kernel
theorem dX2_staysInRows_29 : decode cX2_staysInRows 29 = .ok (.ireturn, 1) := by decide +kernel
theorem dX2_staysInRows_30 : decode cX2_staysInRows 30 = .ok (.iinc 3 1, 3) := by decide +kernel
theorem dX2_staysInRows_33 : decode cX2_staysInRows 33 = .ok (.goto (-31), 3) := by decide +kernel
theorem dX2_staysInRows_36 : decode cX2_staysInRows 36 = .ok (.iconst 1, 1) := by decide +kernel
theorem dX2_staysInRows_37 : decode cX2_staysInRows 37 = .ok (.ireturn, 1) := by decide +kernel
theorem dX2_turned_0 : decode cX2_turned 0 = .ok (.iload_n 0, 1) := by decide +kernel
theorem dX2_turned_1 : decode cX2_turned 1 = .ok (.iload_n 1, 1) := by decide +kernel
theorem dX2_turned_2 : decode cX2_turned 2 = .ok (.ishl, 1) := by decide +kernel
theorem dX2_turned_3 : decode cX2_turned 3 = .ok (.iload_n 0, 1) := by decide +kernel
theorem dX2_turned_4 : decode cX2_turned 4 = .ok (.bipush 16, 2) := by decide +kernel
theorem dX2_turned_6 : decode cX2_turned 6 = .ok (.iload_n 1, 1) := by decide +kernel
theorem dX2_turned_7 : decode cX2_turned 7 = .ok (.isub, 1) := by decide +kernel
theorem dX2_turned_8 : decode cX2_turned 8 = .ok (.iushr, 1) := by decide +kernel
theorem dX2_turned_9 : decode cX2_turned 9 = .ok (.ior, 1) := by decide +kernel
theorem dX2_turned_10 : decode cX2_turned 10 = .ok (.ldc 54, 2) := by decide +kernel
theorem dX2_turned_12 : decode cX2_turned 12 = .ok (.iand, 1) := by decide +kernel
theorem dX2_turned_13 : decode cX2_turned 13 = .ok (.ireturn, 1) := by decide +kernel
theorem dX2_apart_0 : decode cX2_apart 0 = .ok (.iload_n 1, 1) := by decide +kernel
theorem dX2_apart_1 : decode cX2_apart 1 = .ok (.iload_n 2, 1) := by decide +kernel
theorem dX2_apart_2 : decode cX2_apart 2 = .ok (.invokestatic 55, 3) := by decide +kernel
theorem dX2_apart_5 : decode cX2_apart 5 = .ok (.bipush 6, 2) := by decide +kernel
theorem dX2_apart_7 : decode cX2_apart 7 = .ok (.imul, 1) := by decide +kernel
theorem dX2_apart_8 : decode cX2_apart 8 = .ok (.iload_n 1, 1) := by decide +kernel
theorem dX2_apart_9 : decode cX2_apart 9 = .ok (.iload_n 2, 1) := by decide +kernel
theorem dX2_apart_10 : decode cX2_apart 10 = .ok (.invokestatic 60, 3) := by decide +kernel
theorem dX2_apart_13 : decode cX2_apart 13 = .ok (.iadd, 1) := by decide +kernel
theorem dX2_apart_14 : decode cX2_apart 14 = .ok (.istore_n 3, 1) := by decide +kernel
theorem dX2_apart_15 : decode cX2_apart 15 = .ok (.aload_n 0, 1) := by decide +kernel
theorem dX2_apart_16 : decode cX2_apart 16 = .ok (.getfield 18, 3) := by decide +kernel
theorem dX2_apart_19 : decode cX2_apart 19 = .ok (.iload_n 3, 1) := by decide +kernel
theorem dX2_apart_20 : decode cX2_apart 20 = .ok (.iaload, 1) := by decide +kernel
theorem dX2_apart_21 : decode cX2_apart 21 = .ok (.ifCond .ne 15, 3) := by decide +kernel
theorem dX2_apart_24 : decode cX2_apart 24 = .ok (.aload_n 0, 1) := by decide +kernel
theorem dX2_apart_25 : decode cX2_apart 25 = .ok (.getfield 18, 3) := by decide +kernel
theorem dX2_apart_28 : decode cX2_apart 28 = .ok (.iload_n 3, 1) := by decide +kernel
theorem dX2_apart_29 : decode cX2_apart 29 = .ok (.aload_n 0, 1) := by decide +kernel
theorem dX2_apart_30 : decode cX2_apart 30 = .ok (.iload_n 1, 1) := by decide +kernel
theorem dX2_apart_31 : decode cX2_apart 31 = .ok (.iload_n 2, 1) := by decide +kernel
theorem dX2_apart_32 : decode cX2_apart 32 = .ok (.invokevirtual 63, 3) := by decide +kernel
theorem dX2_apart_35 : decode cX2_apart 35 = .ok (.iastore, 1) := by decide +kernel
theorem dX2_apart_36 : decode cX2_apart 36 = .ok (.aload_n 0, 1) := by decide +kernel
theorem dX2_apart_37 : decode cX2_apart 37 = .ok (.getfield 18, 3) := by decide +kernel
theorem dX2_apart_40 : decode cX2_apart 40 = .ok (.iload_n 3, 1) := by decide +kernel
theorem dX2_apart_41 : decode cX2_apart 41 = .ok (.iaload, 1) := by decide +kernel
theorem dX2_apart_42 : decode cX2_apart 42 = .ok (.ireturn, 1) := by decide +kernel
theorem dX2_measure_0 : decode cX2_measure 0 = .ok (.bipush 99, 2) := by decide +kernel
theorem dX2_measure_2 : decode cX2_measure 2 = .ok (.istore_n 3, 1) := by decide +kernel
theorem dX2_measure_3 : decode cX2_measure 3 = .ok (.iconst 0, 1) := by decide +kernel
theorem dX2_measure_4 : decode cX2_measure 4 = .ok (.istore 4, 2) := by decide +kernel
theorem dX2_measure_6 : decode cX2_measure 6 = .ok (.iload 4, 2) := by decide +kernel
theorem dX2_measure_8 : decode cX2_measure 8 = .ok (.bipush 8, 2) := by decide +kernel
theorem dX2_measure_10 : decode cX2_measure 10 = .ok (.if_icmp .ge 74, 3) := by decide +kernel
theorem dX2_measure_13 : decode cX2_measure 13 = .ok (.aload_n 0, 1) := by decide +kernel
theorem dX2_measure_14 : decode cX2_measure 14 = .ok (.iload_n 1, 1) := by decide +kernel
theorem dX2_measure_15 : decode cX2_measure 15 = .ok (.iload 4, 2) := by decide +kernel
theorem dX2_measure_17 : decode cX2_measure 17 = .ok (.invokevirtual 35, 3) := by decide +kernel
theorem dX2_measure_20 : decode cX2_measure 20 = .ok (.istore 5, 2) := by decide +kernel
theorem dX2_measure_22 : decode cX2_measure 22 = .ok (.iconst 0, 1) := by decide +kernel
theorem dX2_measure_23 : decode cX2_measure 23 = .ok (.istore 6, 2) := by decide +kernel
theorem dX2_measure_25 : decode cX2_measure 25 = .ok (.iload 5, 2) := by decide +kernel
theorem dX2_measure_27 : decode cX2_measure 27 = .ok (.ifCond .eq 51, 3) := by decide +kernel
theorem dX2_measure_30 : decode cX2_measure 30 = .ok (.iload 6, 2) := by decide +kernel
theorem dX2_measure_32 : decode cX2_measure 32 = .ok (.bipush 8, 2) := by decide +kernel
theorem dX2_measure_34 : decode cX2_measure 34 = .ok (.if_icmp .ge 44, 3) := by decide +kernel
theorem dX2_measure_37 : decode cX2_measure 37 = .ok (.aload_n 0, 1) := by decide +kernel
theorem dX2_measure_38 : decode cX2_measure 38 = .ok (.iload_n 2, 1) := by decide +kernel
theorem dX2_measure_39 : decode cX2_measure 39 = .ok (.iload 6, 2) := by decide +kernel
theorem dX2_measure_41 : decode cX2_measure 41 = .ok (.invokevirtual 35, 3) := by decide +kernel
theorem dX2_measure_44 : decode cX2_measure 44 = .ok (.istore 7, 2) := by decide +kernel
theorem dX2_measure_46 : decode cX2_measure 46 = .ok (.iload 7, 2) := by decide +kernel
theorem dX2_measure_48 : decode cX2_measure 48 = .ok (.ifCond .eq 24, 3) := by decide +kernel
theorem dX2_measure_51 : decode cX2_measure 51 = .ok (.iload_n 3, 1) := by decide +kernel
theorem dX2_measure_52 : decode cX2_measure 52 = .ok (.iload 4, 2) := by decide +kernel
theorem dX2_measure_54 : decode cX2_measure 54 = .ok (.iload 6, 2) := by decide +kernel
theorem dX2_measure_56 : decode cX2_measure 56 = .ok (.isub, 1) := by decide +kernel
theorem dX2_measure_57 : decode cX2_measure 57 = .ok (.invokestatic 66, 3) := by decide +kernel
theorem dX2_measure_60 : decode cX2_measure 60 = .ok (.iload 5, 2) := by decide +kernel
theorem dX2_measure_62 : decode cX2_measure 62 = .ok (.iload 7, 2) := by decide +kernel
theorem dX2_measure_64 : decode cX2_measure 64 = .ok (.invokestatic 69, 3) := by decide +kernel
theorem dX2_measure_67 : decode cX2_measure 67 = .ok (.iadd, 1) := by decide +kernel
theorem dX2_measure_68 : decode cX2_measure 68 = .ok (.invokestatic 55, 3) := by decide +kernel
theorem dX2_measure_71 : decode cX2_measure 71 = .ok (.istore_n 3, 1) := by decide +kernel
theorem dX2_measure_72 : decode cX2_measure 72 = .ok (.iinc 6 1, 3) := by decide +kernel
theorem dX2_measure_75 : decode cX2_measure 75 = .ok (.goto (-50), 3) := by decide +kernel
theorem dX2_measure_78 : decode cX2_measure 78 = .ok (.iinc 4 1, 3) := by decide +kernel
theorem dX2_measure_81 : decode cX2_measure 81 = .ok (.goto (-75), 3) := by decide +kernel
theorem dX2_measure_84 : decode cX2_measure 84 = .ok (.iload_n 3, 1) := by decide +kernel
theorem dX2_measure_85 : decode cX2_measure 85 = .ok (.ireturn, 1) := by decide +kernel
theorem dX2_columnsApart_0 : decode cX2_columnsApart 0 = .ok (.iload_n 1, 1) := by decide +kernel
theorem dX2_columnsApart_1 : decode cX2_columnsApart 1 = .ok (.bipush 16, 2) := by decide +kernel
theorem dX2_columnsApart_3 : decode cX2_columnsApart 3 = .ok (.ishl, 1) := by decide +kernel
theorem dX2_columnsApart_4 : decode cX2_columnsApart 4 = .ok (.iload_n 1, 1) := by decide +kernel
theorem dX2_columnsApart_5 : decode cX2_columnsApart 5 = .ok (.ior, 1) := by decide +kernel
theorem dX2_columnsApart_6 : decode cX2_columnsApart 6 = .ok (.istore_n 2, 1) := by decide +kernel
theorem dX2_columnsApart_7 : decode cX2_columnsApart 7 = .ok (.iconst 0, 1) := by decide +kernel
theorem dX2_columnsApart_8 : decode cX2_columnsApart 8 = .ok (.istore_n 3, 1) := by decide +kernel
theorem dX2_columnsApart_9 : decode cX2_columnsApart 9 = .ok (.iload_n 3, 1) := by decide +kernel
theorem dX2_columnsApart_10 : decode cX2_columnsApart 10 = .ok (.bipush 8, 2) := by decide +kernel
theorem dX2_columnsApart_12 : decode cX2_columnsApart 12 = .ok (.if_icmp .ge 26, 3) := by decide +kernel
theorem dX2_columnsApart_15 : decode cX2_columnsApart 15 = .ok (.iload_n 0, 1) := by decide +kernel
theorem dX2_columnsApart_16 : decode cX2_columnsApart 16 = .ok (.iload_n 2, 1) := by decide +kernel
theorem dX2_columnsApart_17 : decode cX2_columnsApart 17 = .ok (.iload_n 3, 1) := by decide +kernel
theorem dX2_columnsApart_18 : decode cX2_columnsApart 18 = .ok (.iushr, 1) := by decide +kernel
theorem dX2_columnsApart_19 : decode cX2_columnsApart 19 = .ok (.iload_n 2, 1) := by decide +kernel
theorem dX2_columnsApart_20 : decode cX2_columnsApart 20 = .ok (.bipush 16, 2) := by decide +kernel
theorem dX2_columnsApart_22 : decode cX2_columnsApart 22 = .ok (.iload_n 3, 1) := by decide +kernel
theorem dX2_columnsApart_23 : decode cX2_columnsApart 23 = .ok (.isub, 1) := by decide +kernel
theorem dX2_columnsApart_24 : decode cX2_columnsApart 24 = .ok (.iushr, 1) := by decide +kernel
theorem dX2_columnsApart_25 : decode cX2_columnsApart 25 = .ok (.ior, 1) := by decide +kernel
theorem dX2_columnsApart_26 : decode cX2_columnsApart 26 = .ok (.iand, 1) := by decide +kernel
theorem dX2_columnsApart_27 : decode cX2_columnsApart 27 = .ok (.ifCond .eq 5, 3) := by decide +kernel
theorem dX2_columnsApart_30 : decode cX2_columnsApart 30 = .ok (.iload_n 3, 1) := by decide +kernel
theorem dX2_columnsApart_31 : decode cX2_columnsApart 31 = .ok (.ireturn, 1) := by decide +kernel
theorem dX2_columnsApart_32 : decode cX2_columnsApart 32 = .ok (.iinc 3 1, 3) := by decide +kernel
theorem dX2_columnsApart_35 : decode cX2_columnsApart 35 = .ok (.goto (-26), 3) := by decide +kernel
theorem dX2_columnsApart_38 : decode cX2_columnsApart 38 = .ok (.bipush 8, 2) := by decide +kernel
theorem dX2_columnsApart_40 : decode cX2_columnsApart 40 = .ok (.ireturn, 1) := by decide +kernel
theorem dX2_toldCells_0 : decode cX2_toldCells 0 = .ok (.iconst 0, 1) := by decide +kernel
theorem dX2_toldCells_1 : decode cX2_toldCells 1 = .ok (.istore_n 3, 1) := by decide +kernel
theorem dX2_toldCells_2 : decode cX2_toldCells 2 = .ok (.iload_n 3, 1) := by decide +kernel
theorem dX2_toldCells_3 : decode cX2_toldCells 3 = .ok (.sipush 128, 3) := by decide +kernel
theorem dX2_toldCells_6 : decode cX2_toldCells 6 = .ok (.if_icmp .ge 21, 3) := by decide +kernel
theorem dX2_toldCells_9 : decode cX2_toldCells 9 = .ok (.lload_n 1, 1) := by decide +kernel
theorem dX2_toldCells_10 : decode cX2_toldCells 10 = .ok (.aload_n 0, 1) := by decide +kernel
theorem dX2_toldCells_11 : decode cX2_toldCells 11 = .ok (.getfield 9, 3) := by decide +kernel
theorem dX2_toldCells_14 : decode cX2_toldCells 14 = .ok (.iload_n 3, 1) := by decide +kernel
theorem dX2_toldCells_15 : decode cX2_toldCells 15 = .ok (.iaload, 1) := by decide +kernel
theorem dX2_toldCells_16 : decode cX2_toldCells 16 = .ok (.i2l, 1) := by decide +kernel
theorem dX2_toldCells_17 : decode cX2_toldCells 17 = .ok (.invokestatic 72, 3) := by decide +kernel
theorem dX2_toldCells_20 : decode cX2_toldCells 20 = .ok (.lstore_n 1, 1) := by decide +kernel
theorem dX2_toldCells_21 : decode cX2_toldCells 21 = .ok (.iinc 3 1, 3) := by decide +kernel
theorem dX2_toldCells_24 : decode cX2_toldCells 24 = .ok (.goto (-22), 3) := by decide +kernel
theorem dX2_toldCells_27 : decode cX2_toldCells 27 = .ok (.lload_n 1, 1) := by decide +kernel
theorem dX2_toldCells_28 : decode cX2_toldCells 28 = .ok (.lreturn, 1) := by decide +kernel
theorem dX2_toldDistances_0 : decode cX2_toldDistances 0 = .ok (.iconst 0, 1) := by decide +kernel
theorem dX2_toldDistances_1 : decode cX2_toldDistances 1 = .ok (.istore_n 3, 1) := by decide +kernel
theorem dX2_toldDistances_2 : decode cX2_toldDistances 2 = .ok (.iload_n 3, 1) := by decide +kernel
theorem dX2_toldDistances_3 : decode cX2_toldDistances 3 = .ok (.bipush 6, 2) := by decide +kernel
theorem dX2_toldDistances_5 : decode cX2_toldDistances 5 = .ok (.if_icmp .ge 40, 3) := by decide +kernel
theorem dX2_toldDistances_8 : decode cX2_toldDistances 8 = .ok (.iload_n 3, 1) := by decide +kernel
theorem dX2_toldDistances_9 : decode cX2_toldDistances 9 = .ok (.iconst 1, 1) := by decide +kernel
theorem dX2_toldDistances_10 : decode cX2_toldDistances 10 = .ok (.iadd, 1) := by decide +kernel
theorem dX2_toldDistances_11 : decode cX2_toldDistances 11 = .ok (.istore 4, 2) := by decide +kernel
theorem dX2_toldDistances_13 : decode cX2_toldDistances 13 = .ok (.iload 4, 2) := by decide +kernel
theorem dX2_toldDistances_15 : decode cX2_toldDistances 15 = .ok (.bipush 6, 2) := by decide +kernel
theorem dX2_toldDistances_17 : decode cX2_toldDistances 17 = .ok (.if_icmp .ge 22, 3) := by decide +kernel
theorem dX2_toldDistances_20 : decode cX2_toldDistances 20 = .ok (.lload_n 1, 1) := by decide +kernel
theorem dX2_toldDistances_21 : decode cX2_toldDistances 21 = .ok (.aload_n 0, 1) := by decide +kernel
theorem dX2_toldDistances_22 : decode cX2_toldDistances 22 = .ok (.iload_n 3, 1) := by decide +kernel
theorem dX2_toldDistances_23 : decode cX2_toldDistances 23 = .ok (.iload 4, 2) := by decide +kernel
theorem dX2_toldDistances_25 : decode cX2_toldDistances 25 = .ok (.invokevirtual 76, 3) := by decide +kernel
theorem dX2_toldDistances_28 : decode cX2_toldDistances 28 = .ok (.i2l, 1) := by decide +kernel
theorem dX2_toldDistances_29 : decode cX2_toldDistances 29 = .ok (.invokestatic 72, 3) := by decide +kernel
theorem dX2_toldDistances_32 : decode cX2_toldDistances 32 = .ok (.lstore_n 1, 1) := by decide +kernel
theorem dX2_toldDistances_33 : decode cX2_toldDistances 33 = .ok (.iinc 4 1, 3) := by decide +kernel
theorem dX2_toldDistances_36 : decode cX2_toldDistances 36 = .ok (.goto (-23), 3) := by decide +kernel
theorem dX2_toldDistances_39 : decode cX2_toldDistances 39 = .ok (.iinc 3 1, 3) := by decide +kernel
theorem dX2_toldDistances_42 : decode cX2_toldDistances 42 = .ok (.goto (-40), 3) := by decide +kernel
theorem dX2_toldDistances_45 : decode cX2_toldDistances 45 = .ok (.lload_n 1, 1) := by decide +kernel
theorem dX2_toldDistances_46 : decode cX2_toldDistances 46 = .ok (.lreturn, 1) := by decide +kernel
theorem dX3_init_0 : decode cX3_init 0 = .ok (.aload_n 0, 1) := by decide +kernel
theorem dX3_init_1 : decode cX3_init 1 = .ok (.invokespecial 3, 3) := by decide +kernel
theorem dX3_init_4 : decode cX3_init 4 = .ok (.aload_n 0, 1) := by decide +kernel
theorem dX3_init_5 : decode cX3_init 5 = .ok (.bipush 8, 2) := by decide +kernel
theorem dX3_init_7 : decode cX3_init 7 = .ok (.anewarray 11, 3) := by decide +kernel
theorem dX3_init_10 : decode cX3_init 10 = .ok (.putfield 13, 3) := by decide +kernel
theorem dX3_init_13 : decode cX3_init 13 = .ok (.aload_n 0, 1) := by decide +kernel
theorem dX3_init_14 : decode cX3_init 14 = .ok (.iconst 4, 1) := by decide +kernel
theorem dX3_init_15 : decode cX3_init 15 = .ok (.newarray .int, 2) := by decide +kernel
theorem dX3_init_17 : decode cX3_init 17 = .ok (.putfield 17, 3) := by decide +kernel
theorem dX3_init_20 : decode cX3_init 20 = .ok (.iconst 0, 1) := by decide +kernel
theorem dX3_init_21 : decode cX3_init 21 = .ok (.istore_n 1, 1) := by decide +kernel
theorem dX3_init_22 : decode cX3_init 22 = .ok (.iload_n 1, 1) := by decide +kernel
theorem dX3_init_23 : decode cX3_init 23 = .ok (.bipush 8, 2) := by decide +kernel
theorem dX3_init_25 : decode cX3_init 25 = .ok (.if_icmp .ge 22, 3) := by decide +kernel
theorem dX3_init_28 : decode cX3_init 28 = .ok (.aload_n 0, 1) := by decide +kernel
theorem dX3_init_29 : decode cX3_init 29 = .ok (.getfield 13, 3) := by decide +kernel
theorem dX3_init_32 : decode cX3_init 32 = .ok (.iload_n 1, 1) := by decide +kernel
theorem dX3_init_33 : decode cX3_init 33 = .ok (.new 11, 3) := by decide +kernel
theorem dX3_init_36 : decode cX3_init 36 = .ok (.dup, 1) := by decide +kernel
theorem dX3_init_37 : decode cX3_init 37 = .ok (.invokespecial 21, 3) := by decide +kernel
theorem dX3_init_40 : decode cX3_init 40 = .ok (.aastore, 1) := by decide +kernel
theorem dX3_init_41 : decode cX3_init 41 = .ok (.iinc 1 1, 3) := by decide +kernel
theorem dX3_init_44 : decode cX3_init 44 = .ok (.goto (-22), 3) := by decide +kernel
theorem dX3_init_47 : decode cX3_init 47 = .ok (.return_, 1) := by decide +kernel
theorem dX3_size_0 : decode cX3_size 0 = .ok (.aload_n 0, 1) := by decide +kernel
theorem dX3_size_1 : decode cX3_size 1 = .ok (.getfield 22, 3) := by decide +kernel
theorem dX3_size_4 : decode cX3_size 4 = .ok (.ireturn, 1) := by decide +kernel
theorem dX3_isFull_0 : decode cX3_isFull 0 = .ok (.aload_n 0, 1) := by decide +kernel
theorem dX3_isFull_1 : decode cX3_isFull 1 = .ok (.getfield 22, 3) := by decide +kernel
theorem dX3_isFull_4 : decode cX3_isFull 4 = .ok (.bipush 8, 2) := by decide +kernel
theorem dX3_isFull_6 : decode cX3_isFull 6 = .ok (.if_icmp .lt 7, 3) := by decide +kernel
theorem dX3_isFull_9 : decode cX3_isFull 9 = .ok (.iconst 1, 1) := by decide +kernel
theorem dX3_isFull_10 : decode cX3_isFull 10 = .ok (.goto 4, 3) := by decide +kernel
theorem dX3_isFull_13 : decode cX3_isFull 13 = .ok (.iconst 0, 1) := by decide +kernel
theorem dX3_isFull_14 : decode cX3_isFull 14 = .ok (.ireturn, 1) := by decide +kernel
theorem dX3_read_0 : decode cX3_read 0 = .ok (.aload_n 0, 1) := by decide +kernel
theorem dX3_read_1 : decode cX3_read 1 = .ok (.getfield 13, 3) := by decide +kernel
theorem dX3_read_4 : decode cX3_read 4 = .ok (.aload_n 0, 1) := by decide +kernel
theorem dX3_read_5 : decode cX3_read 5 = .ok (.getfield 22, 3) := by decide +kernel
theorem dX3_read_8 : decode cX3_read 8 = .ok (.aaload, 1) := by decide +kernel
theorem dX3_read_9 : decode cX3_read 9 = .ok (.aload_n 1, 1) := by decide +kernel
theorem dX3_read_10 : decode cX3_read 10 = .ok (.invokevirtual 26, 3) := by decide +kernel
theorem dX3_read_13 : decode cX3_read 13 = .ok (.aload_n 0, 1) := by decide +kernel
theorem dX3_read_14 : decode cX3_read 14 = .ok (.dup, 1) := by decide +kernel
theorem dX3_read_15 : decode cX3_read 15 = .ok (.getfield 22, 3) := by decide +kernel
theorem dX3_read_18 : decode cX3_read 18 = .ok (.iconst 1, 1) := by decide +kernel
theorem dX3_read_19 : decode cX3_read 19 = .ok (.iadd, 1) := by decide +kernel
theorem dX3_read_20 : decode cX3_read 20 = .ok (.putfield 22, 3) := by decide +kernel
theorem dX3_read_23 : decode cX3_read 23 = .ok (.aload_n 0, 1) := by decide +kernel
theorem dX3_read_24 : decode cX3_read 24 = .ok (.getfield 22, 3) := by decide +kernel
theorem dX3_read_27 : decode cX3_read 27 = .ok (.ireturn, 1) := by decide +kernel
theorem dX3_removeLast_0 : decode cX3_removeLast 0 = .ok (.aload_n 0, 1) := by decide +kernel
theorem dX3_removeLast_1 : decode cX3_removeLast 1 = .ok (.dup, 1) := by decide +kernel
theorem dX3_removeLast_2 : decode cX3_removeLast 2 = .ok (.getfield 22, 3) := by decide +kernel
theorem dX3_removeLast_5 : decode cX3_removeLast 5 = .ok (.iconst 1, 1) := by decide +kernel
theorem dX3_removeLast_6 : decode cX3_removeLast 6 = .ok (.isub, 1) := by decide +kernel
theorem dX3_removeLast_7 : decode cX3_removeLast 7 = .ok (.putfield 22, 3) := by decide +kernel
theorem dX3_removeLast_10 : decode cX3_removeLast 10 = .ok (.aload_n 0, 1) := by decide +kernel
theorem dX3_removeLast_11 : decode cX3_removeLast 11 = .ok (.getfield 22, 3) := by decide +kernel
theorem dX3_removeLast_14 : decode cX3_removeLast 14 = .ok (.ireturn, 1) := by decide +kernel
theorem dX3_choose_0 : decode cX3_choose 0 = .ok (.aload_n 0, 1) := by decide +kernel
theorem dX3_choose_1 : decode cX3_choose 1 = .ok (.getfield 17, 3) := by decide +kernel
theorem dX3_choose_4 : decode cX3_choose 4 = .ok (.iconst (-1), 1) := by decide +kernel
theorem dX3_choose_5 : decode cX3_choose 5 = .ok (.invokestatic 30, 3) := by decide +kernel
theorem dX3_choose_8 : decode cX3_choose 8 = .ok (.aload_n 0, 1) := by decide +kernel
theorem dX3_choose_9 : decode cX3_choose 9 = .ok (.getfield 22, 3) := by decide +kernel
theorem dX3_choose_12 : decode cX3_choose 12 = .ok (.iconst 1, 1) := by decide +kernel
theorem dX3_choose_13 : decode cX3_choose 13 = .ok (.isub, 1) := by decide +kernel
theorem dX3_choose_14 : decode cX3_choose 14 = .ok (.istore 4, 2) := by decide +kernel
theorem dX3_choose_16 : decode cX3_choose 16 = .ok (.iload 4, 2) := by decide +kernel
theorem dX3_choose_18 : decode cX3_choose 18 = .ok (.ifCond .lt 58, 3) := by decide +kernel
theorem dX3_choose_21 : decode cX3_choose 21 = .ok (.aload_n 0, 1) := by decide +kernel
theorem dX3_choose_22 : decode cX3_choose 22 = .ok (.getfield 13, 3) := by decide +kernel
theorem dX3_choose_25 : decode cX3_choose 25 = .ok (.iload 4, 2) := by decide +kernel
theorem dX3_choose_27 : decode cX3_choose 27 = .ok (.aaload, 1) := by decide +kernel
theorem dX3_choose_28 : decode cX3_choose 28 = .ok (.astore 5, 2) := by decide +kernel
theorem dX3_choose_30 : decode cX3_choose 30 = .ok (.aload_n 0, 1) := by decide +kernel
theorem dX3_choose_31 : decode cX3_choose 31 = .ok (.getfield 17, 3) := by decide +kernel
theorem dX3_choose_34 : decode cX3_choose 34 = .ok (.aload 5, 2) := by decide +kernel
theorem dX3_choose_36 : decode cX3_choose 36 = .ok (.getfield 36, 3) := by decide +kernel
theorem dX3_choose_39 : decode cX3_choose 39 = .ok (.iaload, 1) := by decide +kernel
theorem dX3_choose_40 : decode cX3_choose 40 = .ok (.iconst (-1), 1) := by decide +kernel
theorem dX3_choose_41 : decode cX3_choose 41 = .ok (.if_icmp .ne 29, 3) := by decide +kernel
theorem dX3_choose_44 : decode cX3_choose 44 = .ok (.aload 5, 2) := by decide +kernel
theorem dX3_choose_46 : decode cX3_choose 46 = .ok (.iload_n 1, 1) := by decide +kernel
theorem dX3_choose_47 : decode cX3_choose 47 = .ok (.iload_n 2, 1) := by decide +kernel
theorem dX3_choose_48 : decode cX3_choose 48 = .ok (.iload_n 3, 1) := by decide +kernel
theorem dX3_choose_49 : decode cX3_choose 49 = .ok (.invokevirtual 39, 3) := by decide +kernel
theorem dX3_choose_52 : decode cX3_choose 52 = .ok (.ifCond .eq 18, 3) := by decide +kernel
theorem dX3_choose_55 : decode cX3_choose 55 = .ok (.aload_n 0, 1) := by decide +kernel
theorem dX3_choose_56 : decode cX3_choose 56 = .ok (.getfield 17, 3) := by decide +kernel
theorem dX3_choose_59 : decode cX3_choose 59 = .ok (.aload 5, 2) := by decide +kernel
theorem dX3_choose_61 : decode cX3_choose 61 = .ok (.getfield 36, 3) := by decide +kernel
theorem dX3_choose_64 : decode cX3_choose 64 = .ok (.aload 5, 2) := by decide +kernel
theorem dX3_choose_66 : decode cX3_choose 66 = .ok (.getfield 43, 3) := by decide +kernel
theorem dX3_choose_69 : decode cX3_choose 69 = .ok (.iastore, 1) := by decide +kernel
theorem dX3_choose_70 : decode cX3_choose 70 = .ok (.iinc 4 (-1), 3) := by decide +kernel
theorem dX3_choose_73 : decode cX3_choose 73 = .ok (.goto (-57), 3) := by decide +kernel
theorem dX3_choose_76 : decode cX3_choose 76 = .ok (.aload_n 0, 1) := by decide +kernel
theorem dX3_choose_77 : decode cX3_choose 77 = .ok (.iconst (-1), 1) := by decide +kernel
theorem dX3_choose_78 : decode cX3_choose 78 = .ok (.putfield 46, 3) := by decide +kernel
theorem dX3_choose_81 : decode cX3_choose 81 = .ok (.aload_n 0, 1) := by decide +kernel
theorem dX3_choose_82 : decode cX3_choose 82 = .ok (.iconst (-1), 1) := by decide +kernel
theorem dX3_choose_83 : decode cX3_choose 83 = .ok (.putfield 47, 3) := by decide +kernel
theorem dX3_choose_86 : decode cX3_choose 86 = .ok (.iconst 0, 1) := by decide +kernel
theorem dX3_choose_87 : decode cX3_choose 87 = .ok (.istore 4, 2) := by decide +kernel
theorem dX3_choose_89 : decode cX3_choose 89 = .ok (.iload 4, 2) := by decide +kernel
theorem dX3_choose_91 : decode cX3_choose 91 = .ok (.iconst 4, 1) := by decide +kernel
theorem dX3_choose_92 : decode cX3_choose 92 = .ok (.if_icmp .ge 81, 3) := by decide +kernel
theorem dX3_choose_95 : decode cX3_choose 95 = .ok (.aload_n 0, 1) := by decide +kernel
theorem dX3_choose_96 : decode cX3_choose 96 = .ok (.getfield 17, 3) := by decide +kernel
theorem dX3_choose_99 : decode cX3_choose 99 = .ok (.iload 4, 2) := by decide +kernel
theorem dX3_choose_101 : decode cX3_choose 101 = .ok (.iaload, 1) := by decide +kernel
theorem dX3_choose_102 : decode cX3_choose 102 = .ok (.iconst (-1), 1) := by decide +kernel
theorem dX3_choose_103 : decode cX3_choose 103 = .ok (.if_icmp .eq 17, 3) := by decide +kernel
theorem dX3_choose_106 : decode cX3_choose 106 = .ok (.iload 4, 2) := by decide +kernel
theorem dX3_choose_108 : decode cX3_choose 108 = .ok (.ifCond .ne 8, 3) := by decide +kernel
theorem dX3_choose_111 : decode cX3_choose 111 = .ok (.iload_n 1, 1) := by decide +kernel
theorem dX3_choose_112 : decode cX3_choose 112 = .ok (.iconst 1, 1) := by decide +kernel
theorem dX3_choose_113 : decode cX3_choose 113 = .ok (.if_icmp .ne 7, 3) := by decide +kernel
theorem dX3_choose_116 : decode cX3_choose 116 = .ok (.iconst 1, 1) := by decide +kernel
theorem dX3_choose_117 : decode cX3_choose 117 = .ok (.goto 4, 3) := by decide +kernel
theorem dX3_choose_120 : decode cX3_choose 120 = .ok (.iconst 0, 1) := by decide +kernel
theorem dX3_choose_121 : decode cX3_choose 121 = .ok (.istore 5, 2) := by decide +kernel
theorem dX3_choose_123 : decode cX3_choose 123 = .ok (.iload 5, 2) := by decide +kernel
theorem dX3_choose_125 : decode cX3_choose 125 = .ok (.ifCond .eq 42, 3) := by decide +kernel
theorem dX3_choose_128 : decode cX3_choose 128 = .ok (.aload_n 0, 1) := by decide +kernel
theorem dX3_choose_129 : decode cX3_choose 129 = .ok (.getfield 46, 3) := by decide +kernel
theorem dX3_choose_132 : decode cX3_choose 132 = .ok (.iconst (-1), 1) := by decide +kernel
theorem dX3_choose_133 : decode cX3_choose 133 = .ok (.if_icmp .eq 17, 3) := by decide +kernel
theorem dX3_choose_136 : decode cX3_choose 136 = .ok (.aload_n 0, 1) := by decide +kernel
theorem dX3_choose_137 : decode cX3_choose 137 = .ok (.getfield 17, 3) := by decide +kernel
theorem dX3_choose_140 : decode cX3_choose 140 = .ok (.iload 4, 2) := by decide +kernel
theorem dX3_choose_142 : decode cX3_choose 142 = .ok (.iaload, 1) := by decide +kernel
theorem dX3_choose_143 : decode cX3_choose 143 = .ok (.aload_n 0, 1) := by decide +kernel
theorem dX3_choose_144 : decode cX3_choose 144 = .ok (.getfield 46, 3) := by decide +kernel
theorem dX3_choose_147 : decode cX3_choose 147 = .ok (.if_icmp .ge 20, 3) := by decide +kernel
theorem dX3_choose_150 : decode cX3_choose 150 = .ok (.aload_n 0, 1) := by decide +kernel
theorem dX3_choose_151 : decode cX3_choose 151 = .ok (.aload_n 0, 1) := by decide +kernel
theorem dX3_choose_152 : decode cX3_choose 152 = .ok (.getfield 17, 3) := by decide +kernel
theorem dX3_choose_155 : decode cX3_choose 155 = .ok (.iload 4, 2) := by decide +kernel
theorem dX3_choose_157 : decode cX3_choose 157 = .ok (.iaload, 1) := by decide +kernel
theorem dX3_choose_158 : decode cX3_choose 158 = .ok (.putfield 46, 3) := by decide +kernel
theorem dX3_choose_161 : decode cX3_choose 161 = .ok (.aload_n 0, 1) := by decide +kernel
theorem dX3_choose_162 : decode cX3_choose 162 = .ok (.iload 4, 2) := by decide +kernel
theorem dX3_choose_164 : decode cX3_choose 164 = .ok (.putfield 47, 3) := by decide +kernel
theorem dX3_choose_167 : decode cX3_choose 167 = .ok (.iinc 4 1, 3) := by decide +kernel
theorem dX3_choose_170 : decode cX3_choose 170 = .ok (.goto (-81), 3) := by decide +kernel
theorem dX3_choose_173 : decode cX3_choose 173 = .ok (.return_, 1) := by decide +kernel
theorem dX4_init_0 : decode cX4_init 0 = .ok (.aload_n 0, 1) := by decide +kernel
theorem dX4_init_1 : decode cX4_init 1 = .ok (.invokespecial 1, 3) := by decide +kernel
theorem dX4_init_4 : decode cX4_init 4 = .ok (.aload_n 0, 1) := by decide +kernel
theorem dX4_init_5 : decode cX4_init 5 = .ok (.bipush 12, 2) := by decide +kernel
theorem dX4_init_7 : decode cX4_init 7 = .ok (.newarray .int, 2) := by decide +kernel
theorem dX4_init_9 : decode cX4_init 9 = .ok (.putfield 9, 3) := by decide +kernel
theorem dX4_init_12 : decode cX4_init 12 = .ok (.aload_n 0, 1) := by decide +kernel
theorem dX4_init_13 : decode cX4_init 13 = .ok (.bipush 12, 2) := by decide +kernel
theorem dX4_init_15 : decode cX4_init 15 = .ok (.newarray .int, 2) := by decide +kernel
theorem dX4_init_17 : decode cX4_init 17 = .ok (.putfield 13, 3) := by decide +kernel
theorem dX4_init_20 : decode cX4_init 20 = .ok (.aload_n 0, 1) := by decide +kernel
theorem dX4_init_21 : decode cX4_init 21 = .ok (.bipush 12, 2) := by decide +kernel
theorem dX4_init_23 : decode cX4_init 23 = .ok (.newarray .int, 2) := by decide +kernel
theorem dX4_init_25 : decode cX4_init 25 = .ok (.putfield 16, 3) := by decide +kernel
theorem dX4_init_28 : decode cX4_init 28 = .ok (.aload_n 0, 1) := by decide +kernel
theorem dX4_init_29 : decode cX4_init 29 = .ok (.bipush 12, 2) := by decide +kernel
theorem dX4_init_31 : decode cX4_init 31 = .ok (.newarray .boolean, 2) := by decide +kernel
theorem dX4_init_33 : decode cX4_init 33 = .ok (.putfield 19, 3) := by decide +kernel
theorem dX4_init_36 : decode cX4_init 36 = .ok (.aload_n 0, 1) := by decide +kernel
theorem dX4_init_37 : decode cX4_init 37 = .ok (.bipush 12, 2) := by decide +kernel
theorem dX4_init_39 : decode cX4_init 39 = .ok (.newarray .boolean, 2) := by decide +kernel
theorem dX4_init_41 : decode cX4_init 41 = .ok (.putfield 23, 3) := by decide +kernel
theorem dX4_init_44 : decode cX4_init 44 = .ok (.return_, 1) := by decide +kernel
theorem dX4_read_0 : decode cX4_read 0 = .ok (.aload_n 0, 1) := by decide +kernel
theorem dX4_read_1 : decode cX4_read 1 = .ok (.iconst 0, 1) := by decide +kernel
theorem dX4_read_2 : decode cX4_read 2 = .ok (.putfield 26, 3) := by decide +kernel
theorem dX4_read_5 : decode cX4_read 5 = .ok (.aload_n 0, 1) := by decide +kernel
theorem dX4_read_6 : decode cX4_read 6 = .ok (.iconst 0, 1) := by decide +kernel
theorem dX4_read_7 : decode cX4_read 7 = .ok (.putfield 30, 3) := by decide +kernel
theorem dX4_read_10 : decode cX4_read 10 = .ok (.iconst 0, 1) := by decide +kernel
theorem dX4_read_11 : decode cX4_read 11 = .ok (.istore_n 2, 1) := by decide +kernel
theorem dX4_read_12 : decode cX4_read 12 = .ok (.iconst 0, 1) := by decide +kernel
theorem dX4_read_13 : decode cX4_read 13 = .ok (.istore_n 3, 1) := by decide +kernel
theorem dX4_read_14 : decode cX4_read 14 = .ok (.iload_n 3, 1) := by decide +kernel
theorem dX4_read_15 : decode cX4_read 15 = .ok (.aload_n 1, 1) := by decide +kernel
theorem dX4_read_16 : decode cX4_read 16 = .ok (.invokevirtual 35, 3) := by decide +kernel
theorem dX4_read_19 : decode cX4_read 19 = .ok (.if_icmp .ge 38, 3) := by decide +kernel
theorem dX4_read_22 : decode cX4_read 22 = .ok (.iload_n 2, 1) := by decide +kernel
theorem dX4_read_23 : decode cX4_read 23 = .ok (.aload_n 1, 1) := by decide +kernel
theorem dX4_read_24 : decode cX4_read 24 = .ok (.iload_n 3, 1) := by decide +kernel
theorem dX4_read_25 : decode cX4_read 25 = .ok (.invokevirtual 39, 3) := by decide +kernel
theorem dX4_read_28 : decode cX4_read 28 = .ok (.invokestatic 43, 3) := by decide +kernel
theorem dX4_read_31 : decode cX4_read 31 = .ok (.istore_n 2, 1) := by decide +kernel
theorem dX4_read_32 : decode cX4_read 32 = .ok (.aload_n 0, 1) := by decide +kernel
theorem dX4_read_33 : decode cX4_read 33 = .ok (.getfield 30, 3) := by decide +kernel
theorem dX4_read_36 : decode cX4_read 36 = .ok (.bipush 12, 2) := by decide +kernel
theorem dX4_read_38 : decode cX4_read 38 = .ok (.if_icmp .ge 13, 3) := by decide +kernel
theorem dX4_read_41 : decode cX4_read 41 = .ok (.aload_n 0, 1) := by decide +kernel
theorem dX4_read_42 : decode cX4_read 42 = .ok (.iload_n 2, 1) := by decide +kernel
theorem dX4_read_43 : decode cX4_read 43 = .ok (.aload_n 1, 1) := by decide +kernel
theorem dX4_read_44 : decode cX4_read 44 = .ok (.iload_n 3, 1) := by decide +kernel
theorem dX4_read_45 : decode cX4_read 45 = .ok (.invokevirtual 39, 3) := by decide +kernel
theorem dX4_read_48 : decode cX4_read 48 = .ok (.invokevirtual 47, 3) := by decide +kernel
theorem dX4_read_51 : decode cX4_read 51 = .ok (.iinc 3 1, 3) := by decide +kernel
theorem dX4_read_54 : decode cX4_read 54 = .ok (.goto (-40), 3) := by decide +kernel
theorem dX4_read_57 : decode cX4_read 57 = .ok (.return_, 1) := by decide +kernel
theorem dX4_take_0 : decode cX4_take 0 = .ok (.iload_n 1, 1) := by decide +kernel
theorem dX4_take_1 : decode cX4_take 1 = .ok (.tableswitch 181 1 9 #[51, 181, 65, 65, 84, 92, 131, 144, 170], 51) := by decide +kernel
theorem dX4_take_52 : decode cX4_take 52 = .ok (.aload_n 0, 1) := by decide +kernel
theorem dX4_take_53 : decode cX4_take 53 = .ok (.ldc 51, 2) := by decide +kernel
theorem dX4_take_55 : decode cX4_take 55 = .ok (.iload_n 2, 1) := by decide +kernel
theorem dX4_take_56 : decode cX4_take 56 = .ok (.i2c, 1) := by decide +kernel
theorem dX4_take_57 : decode cX4_take 57 = .ok (.invokevirtual 53, 3) := by decide +kernel
theorem dX4_take_60 : decode cX4_take 60 = .ok (.putfield 58, 3) := by decide +kernel
theorem dX4_take_63 : decode cX4_take 63 = .ok (.goto 119, 3) := by decide +kernel
theorem dX4_take_66 : decode cX4_take 66 = .ok (.aload_n 0, 1) := by decide +kernel
theorem dX4_take_67 : decode cX4_take 67 = .ok (.bipush 10, 2) := by decide +kernel
theorem dX4_take_69 : decode cX4_take 69 = .ok (.aload_n 0, 1) := by decide +kernel
theorem dX4_take_70 : decode cX4_take 70 = .ok (.getfield 26, 3) := by decide +kernel
theorem dX4_take_73 : decode cX4_take 73 = .ok (.imul, 1) := by decide +kernel
theorem dX4_take_74 : decode cX4_take 74 = .ok (.iload_n 2, 1) := by decide +kernel
theorem dX4_take_75 : decode cX4_take 75 = .ok (.iadd, 1) := by decide +kernel
theorem dX4_take_76 : decode cX4_take 76 = .ok (.bipush 48, 2) := by decide +kernel
theorem dX4_take_78 : decode cX4_take 78 = .ok (.isub, 1) := by decide +kernel
theorem dX4_take_79 : decode cX4_take 79 = .ok (.putfield 26, 3) := by decide +kernel
theorem dX4_take_82 : decode cX4_take 82 = .ok (.goto 100, 3) := by decide +kernel
theorem dX4_take_85 : decode cX4_take 85 = .ok (.aload_n 0, 1) := by decide +kernel
theorem dX4_take_86 : decode cX4_take 86 = .ok (.iload_n 2, 1) := by decide +kernel
theorem dX4_take_87 : decode cX4_take 87 = .ok (.invokevirtual 61, 3) := by decide +kernel
theorem dX4_take_90 : decode cX4_take 90 = .ok (.goto 92, 3) := by decide +kernel
theorem dX4_take_93 : decode cX4_take 93 = .ok (.aload_n 0, 1) := by decide +kernel
theorem dX4_take_94 : decode cX4_take 94 = .ok (.getfield 9, 3) := by decide +kernel
theorem dX4_take_97 : decode cX4_take 97 = .ok (.aload_n 0, 1) := by decide +kernel
theorem dX4_take_98 : decode cX4_take 98 = .ok (.getfield 30, 3) := by decide +kernel
theorem dX4_take_101 : decode cX4_take 101 = .ok (.iload_n 2, 1) := by decide +kernel
theorem dX4_take_102 : decode cX4_take 102 = .ok (.iastore, 1) := by decide +kernel
theorem dX4_take_103 : decode cX4_take 103 = .ok (.aload_n 0, 1) := by decide +kernel
theorem dX4_take_104 : decode cX4_take 104 = .ok (.getfield 19, 3) := by decide +kernel
theorem dX4_take_107 : decode cX4_take 107 = .ok (.aload_n 0, 1) := by decide +kernel
theorem dX4_take_108 : decode cX4_take 108 = .ok (.getfield 30, 3) := by decide +kernel
theorem dX4_take_111 : decode cX4_take 111 = .ok (.aload_n 0, 1) := by decide +kernel
theorem dX4_take_112 : decode cX4_take 112 = .ok (.getfield 65, 3) := by decide +kernel
theorem dX4_take_115 : decode cX4_take 115 = .ok (.bastore, 1) := by decide +kernel
theorem dX4_take_116 : decode cX4_take 116 = .ok (.aload_n 0, 1) := by decide +kernel
theorem dX4_take_117 : decode cX4_take 117 = .ok (.getfield 23, 3) := by decide +kernel
theorem dX4_take_120 : decode cX4_take 120 = .ok (.aload_n 0, 1) := by decide +kernel
theorem dX4_take_121 : decode cX4_take 121 = .ok (.getfield 30, 3) := by decide +kernel
theorem dX4_take_124 : decode cX4_take 124 = .ok (.aload_n 0, 1) := by decide +kernel
theorem dX4_take_125 : decode cX4_take 125 = .ok (.getfield 69, 3) := by decide +kernel
theorem dX4_take_128 : decode cX4_take 128 = .ok (.bastore, 1) := by decide +kernel
theorem dX4_take_129 : decode cX4_take 129 = .ok (.goto 53, 3) := by decide +kernel
theorem dX4_take_132 : decode cX4_take 132 = .ok (.aload_n 0, 1) := by decide +kernel
theorem dX4_take_133 : decode cX4_take 133 = .ok (.getfield 13, 3) := by decide +kernel
theorem dX4_take_136 : decode cX4_take 136 = .ok (.aload_n 0, 1) := by decide +kernel
theorem dX4_take_137 : decode cX4_take 137 = .ok (.getfield 30, 3) := by decide +kernel
theorem dX4_take_140 : decode cX4_take 140 = .ok (.iload_n 2, 1) := by decide +kernel
theorem dX4_take_141 : decode cX4_take 141 = .ok (.iastore, 1) := by decide +kernel
theorem dX4_take_142 : decode cX4_take 142 = .ok (.goto 40, 3) := by decide +kernel
theorem dX4_take_145 : decode cX4_take 145 = .ok (.aload_n 0, 1) := by decide +kernel
theorem dX4_take_146 : decode cX4_take 146 = .ok (.getfield 16, 3) := by decide +kernel
theorem dX4_take_149 : decode cX4_take 149 = .ok (.aload_n 0, 1) := by decide +kernel
theorem dX4_take_150 : decode cX4_take 150 = .ok (.getfield 30, 3) := by decide +kernel
theorem dX4_take_153 : decode cX4_take 153 = .ok (.iload_n 2, 1) := by decide +kernel
theorem dX4_take_154 : decode cX4_take 154 = .ok (.bipush 48, 2) := by decide +kernel
theorem dX4_take_156 : decode cX4_take 156 = .ok (.isub, 1) := by decide +kernel
theorem dX4_take_157 : decode cX4_take 157 = .ok (.iastore, 1) := by decide +kernel
theorem dX4_take_158 : decode cX4_take 158 = .ok (.aload_n 0, 1) := by decide +kernel
theorem dX4_take_159 : decode cX4_take 159 = .ok (.dup, 1) := by decide +kernel
theorem dX4_take_160 : decode cX4_take 160 = .ok (.getfield 30, 3) := by decide +kernel
theorem dX4_take_163 : decode cX4_take 163 = .ok (.iconst 1, 1) := by decide +kernel
theorem dX4_take_164 : decode cX4_take 164 = .ok (.iadd, 1) := by decide +kernel
theorem dX4_take_165 : decode cX4_take 165 = .ok (.putfield 30, 3) := by decide +kernel
theorem dX4_take_168 : decode cX4_take 168 = .ok (.goto 14, 3) := by decide +kernel
theorem dX4_take_171 : decode cX4_take 171 = .ok (.aload_n 0, 1) := by decide +kernel
theorem dX4_take_172 : decode cX4_take 172 = .ok (.iload_n 2, 1) := by decide +kernel
theorem dX4_take_173 : decode cX4_take 173 = .ok (.bipush 48, 2) := by decide +kernel
theorem dX4_take_175 : decode cX4_take 175 = .ok (.isub, 1) := by decide +kernel
theorem dX4_take_176 : decode cX4_take 176 = .ok (.invokevirtual 72, 3) := by decide +kernel
theorem dX4_take_179 : decode cX4_take 179 = .ok (.goto 3, 3) := by decide +kernel
theorem dX4_take_182 : decode cX4_take 182 = .ok (.return_, 1) := by decide +kernel
theorem dX4_takeAheadOfFactor_0 : decode cX4_takeAheadOfFactor 0 = .ok (.iload_n 1, 1) := by decide +kernel
theorem dX4_takeAheadOfFactor_1 : decode cX4_takeAheadOfFactor 1 = .ok (.bipush 33, 2) := by decide +kernel
theorem dX4_takeAheadOfFactor_3 : decode cX4_takeAheadOfFactor 3 = .ok (.if_icmp .ne 22, 3) := by decide +kernel
theorem dX4_takeAheadOfFactor_6 : decode cX4_takeAheadOfFactor 6 = .ok (.aload_n 0, 1) := by decide +kernel
theorem dX4_takeAheadOfFactor_7 : decode cX4_takeAheadOfFactor 7 = .ok (.aload_n 0, 1) := by decide +kernel
theorem dX4_takeAheadOfFactor_8 : decode cX4_takeAheadOfFactor 8 = .ok (.getfield 65, 3) := by decide +kernel
theorem dX4_takeAheadOfFactor_11 : decode cX4_takeAheadOfFactor 11 = .ok (.ifCond .ne 7, 3) := by decide +kernel
theorem dX4_takeAheadOfFactor_14 : decode cX4_takeAheadOfFactor 14 = .ok (.iconst 1, 1) := by decide +kernel
theorem dX4_takeAheadOfFactor_15 : decode cX4_takeAheadOfFactor 15 = .ok (.goto 4, 3) := by decide +kernel
theorem dX4_takeAheadOfFactor_18 : decode cX4_takeAheadOfFactor 18 = .ok (.iconst 0, 1) := by decide +kernel
theorem dX4_takeAheadOfFactor_19 : decode cX4_takeAheadOfFactor 19 = .ok (.putfield 65, 3) := by decide +kernel
theorem dX4_takeAheadOfFactor_22 : decode cX4_takeAheadOfFactor 22 = .ok (.goto 23, 3) := by decide +kernel
theorem dX4_takeAheadOfFactor_25 : decode cX4_takeAheadOfFactor 25 = .ok (.aload_n 0, 1) := by decide +kernel
theorem dX4_takeAheadOfFactor_26 : decode cX4_takeAheadOfFactor 26 = .ok (.iconst 0, 1) := by decide +kernel
theorem dX4_takeAheadOfFactor_27 : decode cX4_takeAheadOfFactor 27 = .ok (.putfield 65, 3) := by decide +kernel
theorem dX4_takeAheadOfFactor_30 : decode cX4_takeAheadOfFactor 30 = .ok (.aload_n 0, 1) := by decide +kernel
theorem dX4_takeAheadOfFactor_31 : decode cX4_takeAheadOfFactor 31 = .ok (.iload_n 1, 1) := by decide +kernel
theorem dX4_takeAheadOfFactor_32 : decode cX4_takeAheadOfFactor 32 = .ok (.bipush 38, 2) := by decide +kernel
theorem dX4_takeAheadOfFactor_34 : decode cX4_takeAheadOfFactor 34 = .ok (.if_icmp .eq 7, 3) := by decide +kernel
theorem dX4_takeAheadOfFactor_37 : decode cX4_takeAheadOfFactor 37 = .ok (.iconst 1, 1) := by decide +kernel
theorem dX4_takeAheadOfFactor_38 : decode cX4_takeAheadOfFactor 38 = .ok (.goto 4, 3) := by decide +kernel
theorem dX4_takeAheadOfFactor_41 : decode cX4_takeAheadOfFactor 41 = .ok (.iconst 0, 1) := by decide +kernel
theorem dX4_takeAheadOfFactor_42 : decode cX4_takeAheadOfFactor 42 = .ok (.putfield 69, 3) := by decide +kernel
theorem dX4_takeAheadOfFactor_45 : decode cX4_takeAheadOfFactor 45 = .ok (.return_, 1) := by decide +kernel
theorem dX4_takeSecondDigit_0 : decode cX4_takeSecondDigit 0 = .ok (.aload_n 0, 1) := by decide +kernel
theorem dX4_takeSecondDigit_1 : decode cX4_takeSecondDigit 1 = .ok (.getfield 30, 3) := by decide +kernel
theorem dX4_takeSecondDigit_4 : decode cX4_takeSecondDigit 4 = .ok (.iconst 1, 1) := by decide +kernel
theorem dX4_takeSecondDigit_5 : decode cX4_takeSecondDigit 5 = .ok (.isub, 1) := by decide +kernel
theorem dX4_takeSecondDigit_6 : decode cX4_takeSecondDigit 6 = .ok (.istore_n 2, 1) := by decide +kernel
theorem dX4_takeSecondDigit_7 : decode cX4_takeSecondDigit 7 = .ok (.iload_n 2, 1) := by decide +kernel
theorem dX4_takeSecondDigit_8 : decode cX4_takeSecondDigit 8 = .ok (.ifCond .lt 20, 3) := by decide +kernel
theorem dX4_takeSecondDigit_11 : decode cX4_takeSecondDigit 11 = .ok (.aload_n 0, 1) := by decide +kernel
theorem dX4_takeSecondDigit_12 : decode cX4_takeSecondDigit 12 = .ok (.getfield 16, 3) := by decide +kernel
theorem dX4_takeSecondDigit_15 : decode cX4_takeSecondDigit 15 = .ok (.iload_n 2, 1) := by decide +kernel
theorem dX4_takeSecondDigit_16 : decode cX4_takeSecondDigit 16 = .ok (.bipush 10, 2) := by decide +kernel
theorem dX4_takeSecondDigit_18 : decode cX4_takeSecondDigit 18 = .ok (.aload_n 0, 1) := by decide +kernel
theorem dX4_takeSecondDigit_19 : decode cX4_takeSecondDigit 19 = .ok (.getfield 16, 3) := by decide +kernel
theorem dX4_takeSecondDigit_22 : decode cX4_takeSecondDigit 22 = .ok (.iload_n 2, 1) := by decide +kernel
theorem dX4_takeSecondDigit_23 : decode cX4_takeSecondDigit 23 = .ok (.iaload, 1) := by decide +kernel
theorem dX4_takeSecondDigit_24 : decode cX4_takeSecondDigit 24 = .ok (.imul, 1) := by decide +kernel
theorem dX4_takeSecondDigit_25 : decode cX4_takeSecondDigit 25 = .ok (.iload_n 1, 1) := by decide +kernel
theorem dX4_takeSecondDigit_26 : decode cX4_takeSecondDigit 26 = .ok (.iadd, 1) := by decide +kernel
theorem dX4_takeSecondDigit_27 : decode cX4_takeSecondDigit 27 = .ok (.iastore, 1) := by decide +kernel
theorem dX4_takeSecondDigit_28 : decode cX4_takeSecondDigit 28 = .ok (.return_, 1) := by decide +kernel
theorem dX4_holds_0 : decode cX4_holds 0 = .ok (.iconst 1, 1) := by decide +kernel
theorem dX4_holds_1 : decode cX4_holds 1 = .ok (.istore 4, 2) := by decide +kernel
theorem dX4_holds_3 : decode cX4_holds 3 = .ok (.iconst 0, 1) := by decide +kernel
theorem dX4_holds_4 : decode cX4_holds 4 = .ok (.istore 5, 2) := by decide +kernel
theorem dX4_holds_6 : decode cX4_holds 6 = .ok (.iload 5, 2) := by decide +kernel
theorem dX4_holds_8 : decode cX4_holds 8 = .ok (.aload_n 0, 1) := by decide +kernel
theorem dX4_holds_9 : decode cX4_holds 9 = .ok (.getfield 30, 3) := by decide +kernel
theorem dX4_holds_12 : decode cX4_holds 12 = .ok (.if_icmp .ge 58, 3) := by decide +kernel
theorem dX4_holds_15 : decode cX4_holds 15 = .ok (.aload_n 0, 1) := by decide +kernel
theorem dX4_holds_16 : decode cX4_holds 16 = .ok (.getfield 23, 3) := by decide +kernel
theorem dX4_holds_19 : decode cX4_holds 19 = .ok (.iload 5, 2) := by decide +kernel
theorem dX4_holds_21 : decode cX4_holds 21 = .ok (.baload, 1) := by decide +kernel
theorem dX4_holds_22 : decode cX4_holds 22 = .ok (.ifCond .eq 18, 3) := by decide +kernel
theorem dX4_holds_25 : decode cX4_holds 25 = .ok (.iload 5, 2) := by decide +kernel
theorem dX4_holds_27 : decode cX4_holds 27 = .ok (.ifCond .le 10, 3) := by decide +kernel
theorem dX4_holds_30 : decode cX4_holds 30 = .ok (.iload 4, 2) := by decide +kernel
theorem dX4_holds_32 : decode cX4_holds 32 = .ok (.ifCond .eq 5, 3) := by decide +kernel
theorem dX4_holds_35 : decode cX4_holds 35 = .ok (.iconst 1, 1) := by decide +kernel
theorem dX4_holds_36 : decode cX4_holds 36 = .ok (.ireturn, 1) := by decide +kernel
theorem dX4_holds_37 : decode cX4_holds 37 = .ok (.iconst 1, 1) := by decide +kernel
theorem dX4_holds_38 : decode cX4_holds 38 = .ok (.istore 4, 2) := by decide +kernel
theorem dX4_holds_40 : decode cX4_holds 40 = .ok (.iload 4, 2) := by decide +kernel
theorem dX4_holds_42 : decode cX4_holds 42 = .ok (.ifCond .eq 19, 3) := by decide +kernel
theorem dX4_holds_45 : decode cX4_holds 45 = .ok (.aload_n 0, 1) := by decide +kernel
theorem dX4_holds_46 : decode cX4_holds 46 = .ok (.iload 5, 2) := by decide +kernel
theorem dX4_holds_48 : decode cX4_holds 48 = .ok (.iload_n 1, 1) := by decide +kernel
theorem dX4_holds_49 : decode cX4_holds 49 = .ok (.iload_n 2, 1) := by decide +kernel
theorem dX4_holds_50 : decode cX4_holds 50 = .ok (.iload_n 3, 1) := by decide +kernel
theorem dX4_holds_51 : decode cX4_holds 51 = .ok (.invokevirtual 75, 3) := by decide +kernel
theorem dX4_holds_54 : decode cX4_holds 54 = .ok (.ifCond .eq 7, 3) := by decide +kernel
theorem dX4_holds_57 : decode cX4_holds 57 = .ok (.iconst 1, 1) := by decide +kernel
theorem dX4_holds_58 : decode cX4_holds 58 = .ok (.goto 4, 3) := by decide +kernel
theorem dX4_holds_61 : decode cX4_holds 61 = .ok (.iconst 0, 1) := by decide +kernel
theorem dX4_holds_62 : decode cX4_holds 62 = .ok (.istore 4, 2) := by decide +kernel
theorem dX4_holds_64 : decode cX4_holds 64 = .ok (.iinc 5 1, 3) := by decide +kernel
theorem dX4_holds_67 : decode cX4_holds 67 = .ok (.goto (-61), 3) := by decide +kernel
theorem dX4_holds_70 : decode cX4_holds 70 = .ok (.iload 4, 2) := by decide +kernel
theorem dX4_holds_72 : decode cX4_holds 72 = .ok (.ireturn, 1) := by decide +kernel
theorem dX4_factorHolds_0 : decode cX4_factorHolds 0 = .ok (.aload_n 0, 1) := by decide +kernel
theorem dX4_factorHolds_1 : decode cX4_factorHolds 1 = .ok (.getfield 9, 3) := by decide +kernel
theorem dX4_factorHolds_4 : decode cX4_factorHolds 4 = .ok (.iload_n 1, 1) := by decide +kernel
theorem dX4_factorHolds_5 : decode cX4_factorHolds 5 = .ok (.iaload, 1) := by decide +kernel
theorem dX4_factorHolds_6 : decode cX4_factorHolds 6 = .ok (.bipush 100, 2) := by decide +kernel
theorem dX4_factorHolds_8 : decode cX4_factorHolds 8 = .ok (.if_icmp .ne 7, 3) := by decide +kernel
theorem dX4_factorHolds_11 : decode cX4_factorHolds 11 = .ok (.iload_n 2, 1) := by decide +kernel
theorem dX4_factorHolds_12 : decode cX4_factorHolds 12 = .ok (.goto 20, 3) := by decide +kernel
theorem dX4_factorHolds_15 : decode cX4_factorHolds 15 = .ok (.aload_n 0, 1) := by decide +kernel
theorem dX4_factorHolds_16 : decode cX4_factorHolds 16 = .ok (.getfield 9, 3) := by decide +kernel
theorem dX4_factorHolds_19 : decode cX4_factorHolds 19 = .ok (.iload_n 1, 1) := by decide +kernel
theorem dX4_factorHolds_20 : decode cX4_factorHolds 20 = .ok (.iaload, 1) := by decide +kernel
theorem dX4_factorHolds_21 : decode cX4_factorHolds 21 = .ok (.bipush 101, 2) := by decide +kernel
theorem dX4_factorHolds_23 : decode cX4_factorHolds 23 = .ok (.if_icmp .ne 7, 3) := by decide +kernel
theorem dX4_factorHolds_26 : decode cX4_factorHolds 26 = .ok (.iload_n 3, 1) := by decide +kernel
theorem dX4_factorHolds_27 : decode cX4_factorHolds 27 = .ok (.goto 5, 3) := by decide +kernel
theorem dX4_factorHolds_30 : decode cX4_factorHolds 30 = .ok (.iload 4, 2) := by decide +kernel
theorem dX4_factorHolds_32 : decode cX4_factorHolds 32 = .ok (.istore 5, 2) := by decide +kernel
theorem dX4_factorHolds_34 : decode cX4_factorHolds 34 = .ok (.aload_n 0, 1) := by decide +kernel
theorem dX4_factorHolds_35 : decode cX4_factorHolds 35 = .ok (.getfield 13, 3) := by decide +kernel
theorem dX4_factorHolds_38 : decode cX4_factorHolds 38 = .ok (.iload_n 1, 1) := by decide +kernel
theorem dX4_factorHolds_39 : decode cX4_factorHolds 39 = .ok (.iaload, 1) := by decide +kernel
theorem dX4_factorHolds_40 : decode cX4_factorHolds 40 = .ok (.bipush 60, 2) := by decide +kernel
theorem dX4_factorHolds_42 : decode cX4_factorHolds 42 = .ok (.if_icmp .ne 22, 3) := by decide +kernel
theorem dX4_factorHolds_45 : decode cX4_factorHolds 45 = .ok (.iload 5, 2) := by decide +kernel
theorem dX4_factorHolds_47 : decode cX4_factorHolds 47 = .ok (.aload_n 0, 1) := by decide +kernel
theorem dX4_factorHolds_48 : decode cX4_factorHolds 48 = .ok (.getfield 16, 3) := by decide +kernel
theorem dX4_factorHolds_51 : decode cX4_factorHolds 51 = .ok (.iload_n 1, 1) := by decide +kernel
theorem dX4_factorHolds_52 : decode cX4_factorHolds 52 = .ok (.iaload, 1) := by decide +kernel
theorem dX4_factorHolds_53 : decode cX4_factorHolds 53 = .ok (.if_icmp .ge 7, 3) := by decide +kernel
theorem dX4_factorHolds_56 : decode cX4_factorHolds 56 = .ok (.iconst 1, 1) := by decide +kernel
theorem dX4_factorHolds_57 : decode cX4_factorHolds 57 = .ok (.goto 53, 3) := by decide +kernel
theorem dX4_factorHolds_60 : decode cX4_factorHolds 60 = .ok (.iconst 0, 1) := by decide +kernel
theorem dX4_factorHolds_61 : decode cX4_factorHolds 61 = .ok (.goto 49, 3) := by decide +kernel
theorem dX4_factorHolds_64 : decode cX4_factorHolds 64 = .ok (.aload_n 0, 1) := by decide +kernel
theorem dX4_factorHolds_65 : decode cX4_factorHolds 65 = .ok (.getfield 13, 3) := by decide +kernel
theorem dX4_factorHolds_68 : decode cX4_factorHolds 68 = .ok (.iload_n 1, 1) := by decide +kernel
theorem dX4_factorHolds_69 : decode cX4_factorHolds 69 = .ok (.iaload, 1) := by decide +kernel
theorem dX4_factorHolds_70 : decode cX4_factorHolds 70 = .ok (.bipush 61, 2) := by decide +kernel
theorem dX4_factorHolds_72 : decode cX4_factorHolds 72 = .ok (.if_icmp .ne 22, 3) := by decide +kernel
theorem dX4_factorHolds_75 : decode cX4_factorHolds 75 = .ok (.iload 5, 2) := by decide +kernel
theorem dX4_factorHolds_77 : decode cX4_factorHolds 77 = .ok (.aload_n 0, 1) := by decide +kernel
theorem dX4_factorHolds_78 : decode cX4_factorHolds 78 = .ok (.getfield 16, 3) := by decide +kernel
theorem dX4_factorHolds_81 : decode cX4_factorHolds 81 = .ok (.iload_n 1, 1) := by decide +kernel
theorem dX4_factorHolds_82 : decode cX4_factorHolds 82 = .ok (.iaload, 1) := by decide +kernel
theorem dX4_factorHolds_83 : decode cX4_factorHolds 83 = .ok (.if_icmp .ne 7, 3) := by decide +kernel
theorem dX4_factorHolds_86 : decode cX4_factorHolds 86 = .ok (.iconst 1, 1) := by decide +kernel
theorem dX4_factorHolds_87 : decode cX4_factorHolds 87 = .ok (.goto 23, 3) := by decide +kernel
theorem dX4_factorHolds_90 : decode cX4_factorHolds 90 = .ok (.iconst 0, 1) := by decide +kernel
theorem dX4_factorHolds_91 : decode cX4_factorHolds 91 = .ok (.goto 19, 3) := by decide +kernel
theorem dX4_factorHolds_94 : decode cX4_factorHolds 94 = .ok (.iload 5, 2) := by decide +kernel
theorem dX4_factorHolds_96 : decode cX4_factorHolds 96 = .ok (.aload_n 0, 1) := by decide +kernel
theorem dX4_factorHolds_97 : decode cX4_factorHolds 97 = .ok (.getfield 16, 3) := by decide +kernel
theorem dX4_factorHolds_100 : decode cX4_factorHolds 100 = .ok (.iload_n 1, 1) := by decide +kernel
theorem dX4_factorHolds_101 : decode cX4_factorHolds 101 = .ok (.iaload, 1) := by decide +kernel
theorem dX4_factorHolds_102 : decode cX4_factorHolds 102 = .ok (.if_icmp .le 7, 3) := by decide +kernel
theorem dX4_factorHolds_105 : decode cX4_factorHolds 105 = .ok (.iconst 1, 1) := by decide +kernel
theorem dX4_factorHolds_106 : decode cX4_factorHolds 106 = .ok (.goto 4, 3) := by decide +kernel
theorem dX4_factorHolds_109 : decode cX4_factorHolds 109 = .ok (.iconst 0, 1) := by decide +kernel
theorem dX4_factorHolds_110 : decode cX4_factorHolds 110 = .ok (.istore 6, 2) := by decide +kernel
theorem dX4_factorHolds_112 : decode cX4_factorHolds 112 = .ok (.iload 6, 2) := by decide +kernel
theorem dX4_factorHolds_114 : decode cX4_factorHolds 114 = .ok (.aload_n 0, 1) := by decide +kernel
theorem dX4_factorHolds_115 : decode cX4_factorHolds 115 = .ok (.getfield 19, 3) := by decide +kernel
theorem dX4_factorHolds_118 : decode cX4_factorHolds 118 = .ok (.iload_n 1, 1) := by decide +kernel
theorem dX4_factorHolds_119 : decode cX4_factorHolds 119 = .ok (.baload, 1) := by decide +kernel
theorem dX4_factorHolds_120 : decode cX4_factorHolds 120 = .ok (.if_icmp .eq 7, 3) := by decide +kernel
theorem dX4_factorHolds_123 : decode cX4_factorHolds 123 = .ok (.iconst 1, 1) := by decide +kernel
theorem dX4_factorHolds_124 : decode cX4_factorHolds 124 = .ok (.goto 4, 3) := by decide +kernel
theorem dX4_factorHolds_127 : decode cX4_factorHolds 127 = .ok (.iconst 0, 1) := by decide +kernel
theorem dX4_factorHolds_128 : decode cX4_factorHolds 128 = .ok (.ireturn, 1) := by decide +kernel
theorem dX5_init_0 : decode cX5_init 0 = .ok (.aload_n 0, 1) := by decide +kernel
theorem dX5_init_1 : decode cX5_init 1 = .ok (.invokespecial 3, 3) := by decide +kernel
theorem dX5_init_4 : decode cX5_init 4 = .ok (.aload_n 0, 1) := by decide +kernel
theorem dX5_init_5 : decode cX5_init 5 = .ok (.bipush 40, 2) := by decide +kernel
theorem dX5_init_7 : decode cX5_init 7 = .ok (.newarray .int, 2) := by decide +kernel
theorem dX5_init_9 : decode cX5_init 9 = .ok (.putfield 11, 3) := by decide +kernel
theorem dX5_init_12 : decode cX5_init 12 = .ok (.aload_n 0, 1) := by decide +kernel
theorem dX5_init_13 : decode cX5_init 13 = .ok (.bipush 40, 2) := by decide +kernel
theorem dX5_init_15 : decode cX5_init 15 = .ok (.newarray .int, 2) := by decide +kernel
theorem dX5_init_17 : decode cX5_init 17 = .ok (.putfield 15, 3) := by decide +kernel
theorem dX5_init_20 : decode cX5_init 20 = .ok (.aload_n 0, 1) := by decide +kernel
theorem dX5_init_21 : decode cX5_init 21 = .ok (.bipush 40, 2) := by decide +kernel
theorem dX5_init_23 : decode cX5_init 23 = .ok (.newarray .int, 2) := by decide +kernel
theorem dX5_init_25 : decode cX5_init 25 = .ok (.putfield 18, 3) := by decide +kernel
theorem dX5_init_28 : decode cX5_init 28 = .ok (.aload_n 0, 1) := by decide +kernel
theorem dX5_init_29 : decode cX5_init 29 = .ok (.aload_n 1, 1) := by decide +kernel
theorem dX5_init_30 : decode cX5_init 30 = .ok (.putfield 21, 3) := by decide +kernel
theorem dX5_init_33 : decode cX5_init 33 = .ok (.return_, 1) := by decide +kernel
theorem dX5_size_0 : decode cX5_size 0 = .ok (.aload_n 0, 1) := by decide +kernel
theorem dX5_size_1 : decode cX5_size 1 = .ok (.getfield 25, 3) := by decide +kernel
theorem dX5_size_4 : decode cX5_size 4 = .ok (.ireturn, 1) := by decide +kernel
theorem dX5_isFull_0 : decode cX5_isFull 0 = .ok (.aload_n 0, 1) := by decide +kernel
theorem dX5_isFull_1 : decode cX5_isFull 1 = .ok (.getfield 25, 3) := by decide +kernel
theorem dX5_isFull_4 : decode cX5_isFull 4 = .ok (.bipush 40, 2) := by decide +kernel
theorem dX5_isFull_6 : decode cX5_isFull 6 = .ok (.if_icmp .lt 7, 3) := by decide +kernel
theorem dX5_isFull_9 : decode cX5_isFull 9 = .ok (.iconst 1, 1) := by decide +kernel
theorem dX5_isFull_10 : decode cX5_isFull 10 = .ok (.goto 4, 3) := by decide +kernel
theorem dX5_isFull_13 : decode cX5_isFull 13 = .ok (.iconst 0, 1) := by decide +kernel
theorem dX5_isFull_14 : decode cX5_isFull 14 = .ok (.ireturn, 1) := by decide +kernel
theorem dX5_add_0 : decode cX5_add 0 = .ok (.aload_n 0, 1) := by decide +kernel
theorem dX5_add_1 : decode cX5_add 1 = .ok (.getfield 11, 3) := by decide +kernel
theorem dX5_add_4 : decode cX5_add 4 = .ok (.aload_n 0, 1) := by decide +kernel
theorem dX5_add_5 : decode cX5_add 5 = .ok (.getfield 25, 3) := by decide +kernel
theorem dX5_add_8 : decode cX5_add 8 = .ok (.iload_n 1, 1) := by decide +kernel
theorem dX5_add_9 : decode cX5_add 9 = .ok (.iastore, 1) := by decide +kernel
theorem dX5_add_10 : decode cX5_add 10 = .ok (.aload_n 0, 1) := by decide +kernel
theorem dX5_add_11 : decode cX5_add 11 = .ok (.getfield 15, 3) := by decide +kernel
theorem dX5_add_14 : decode cX5_add 14 = .ok (.aload_n 0, 1) := by decide +kernel
theorem dX5_add_15 : decode cX5_add 15 = .ok (.getfield 25, 3) := by decide +kernel
theorem dX5_add_18 : decode cX5_add 18 = .ok (.iload_n 2, 1) := by decide +kernel
theorem dX5_add_19 : decode cX5_add 19 = .ok (.iastore, 1) := by decide +kernel
theorem dX5_add_20 : decode cX5_add 20 = .ok (.aload_n 0, 1) := by decide +kernel
theorem dX5_add_21 : decode cX5_add 21 = .ok (.getfield 18, 3) := by decide +kernel
theorem dX5_add_24 : decode cX5_add 24 = .ok (.aload_n 0, 1) := by decide +kernel
theorem dX5_add_25 : decode cX5_add 25 = .ok (.getfield 25, 3) := by decide +kernel
theorem dX5_add_28 : decode cX5_add 28 = .ok (.iload_n 3, 1) := by decide +kernel
theorem dX5_add_29 : decode cX5_add 29 = .ok (.iastore, 1) := by decide +kernel
theorem dX5_add_30 : decode cX5_add 30 = .ok (.aload_n 0, 1) := by decide +kernel
theorem dX5_add_31 : decode cX5_add 31 = .ok (.dup, 1) := by decide +kernel
theorem dX5_add_32 : decode cX5_add 32 = .ok (.getfield 25, 3) := by decide +kernel
theorem dX5_add_35 : decode cX5_add 35 = .ok (.iconst 1, 1) := by decide +kernel
theorem dX5_add_36 : decode cX5_add 36 = .ok (.iadd, 1) := by decide +kernel
theorem dX5_add_37 : decode cX5_add 37 = .ok (.putfield 25, 3) := by decide +kernel
theorem dX5_add_40 : decode cX5_add 40 = .ok (.aload_n 0, 1) := by decide +kernel
theorem dX5_add_41 : decode cX5_add 41 = .ok (.getfield 25, 3) := by decide +kernel
theorem dX5_add_44 : decode cX5_add 44 = .ok (.iconst 1, 1) := by decide +kernel
theorem dX5_add_45 : decode cX5_add 45 = .ok (.isub, 1) := by decide +kernel
theorem dX5_add_46 : decode cX5_add 46 = .ok (.ireturn, 1) := by decide +kernel
theorem dX5_removeLast_0 : decode cX5_removeLast 0 = .ok (.aload_n 0, 1) := by decide +kernel
theorem dX5_removeLast_1 : decode cX5_removeLast 1 = .ok (.dup, 1) := by decide +kernel
theorem dX5_removeLast_2 : decode cX5_removeLast 2 = .ok (.getfield 25, 3) := by decide +kernel
theorem dX5_removeLast_5 : decode cX5_removeLast 5 = .ok (.iconst 1, 1) := by decide +kernel
theorem dX5_removeLast_6 : decode cX5_removeLast 6 = .ok (.isub, 1) := by decide +kernel
theorem dX5_removeLast_7 : decode cX5_removeLast 7 = .ok (.putfield 25, 3) := by decide +kernel
theorem dX5_removeLast_10 : decode cX5_removeLast 10 = .ok (.aload_n 0, 1) := by decide +kernel
theorem dX5_removeLast_11 : decode cX5_removeLast 11 = .ok (.getfield 25, 3) := by decide +kernel
theorem dX5_removeLast_14 : decode cX5_removeLast 14 = .ok (.ireturn, 1) := by decide +kernel
theorem dX5_kindOf_0 : decode cX5_kindOf 0 = .ok (.aload_n 0, 1) := by decide +kernel
theorem dX5_kindOf_1 : decode cX5_kindOf 1 = .ok (.getfield 11, 3) := by decide +kernel
theorem dX5_kindOf_4 : decode cX5_kindOf 4 = .ok (.iload_n 1, 1) := by decide +kernel
theorem dX5_kindOf_5 : decode cX5_kindOf 5 = .ok (.iaload, 1) := by decide +kernel
theorem dX5_kindOf_6 : decode cX5_kindOf 6 = .ok (.ireturn, 1) := by decide +kernel
theorem dX5_cellOf_0 : decode cX5_cellOf 0 = .ok (.aload_n 0, 1) := by decide +kernel
theorem dX5_cellOf_1 : decode cX5_cellOf 1 = .ok (.getfield 15, 3) := by decide +kernel
theorem dX5_cellOf_4 : decode cX5_cellOf 4 = .ok (.iload_n 1, 1) := by decide +kernel
theorem dX5_cellOf_5 : decode cX5_cellOf 5 = .ok (.iaload, 1) := by decide +kernel
theorem dX5_cellOf_6 : decode cX5_cellOf 6 = .ok (.ireturn, 1) := by decide +kernel
theorem dX5_numberOf_0 : decode cX5_numberOf 0 = .ok (.aload_n 0, 1) := by decide +kernel
theorem dX5_numberOf_1 : decode cX5_numberOf 1 = .ok (.getfield 18, 3) := by decide +kernel
theorem dX5_numberOf_4 : decode cX5_numberOf 4 = .ok (.iload_n 1, 1) := by decide +kernel
theorem dX5_numberOf_5 : decode cX5_numberOf 5 = .ok (.iaload, 1) := by decide +kernel
theorem dX5_numberOf_6 : decode cX5_numberOf 6 = .ok (.ireturn, 1) := by decide +kernel
theorem dX5_weightOf_0 : decode cX5_weightOf 0 = .ok (.getstatic 29, 3) := by decide +kernel
theorem dX5_weightOf_3 : decode cX5_weightOf 3 = .ok (.aload_n 0, 1) := by decide +kernel
theorem dX5_weightOf_4 : decode cX5_weightOf 4 = .ok (.getfield 11, 3) := by decide +kernel
theorem dX5_weightOf_7 : decode cX5_weightOf 7 = .ok (.iload_n 1, 1) := by decide +kernel
theorem dX5_weightOf_8 : decode cX5_weightOf 8 = .ok (.iaload, 1) := by decide +kernel
theorem dX5_weightOf_9 : decode cX5_weightOf 9 = .ok (.iaload, 1) := by decide +kernel
theorem dX5_weightOf_10 : decode cX5_weightOf 10 = .ok (.ireturn, 1) := by decide +kernel
theorem dX5_landOf_0 : decode cX5_landOf 0 = .ok (.aload_n 0, 1) := by decide +kernel
theorem dX5_landOf_1 : decode cX5_landOf 1 = .ok (.getfield 21, 3) := by decide +kernel
theorem dX5_landOf_4 : decode cX5_landOf 4 = .ok (.aload_n 0, 1) := by decide +kernel
theorem dX5_landOf_5 : decode cX5_landOf 5 = .ok (.getfield 15, 3) := by decide +kernel
theorem dX5_landOf_8 : decode cX5_landOf 8 = .ok (.iload_n 1, 1) := by decide +kernel
theorem dX5_landOf_9 : decode cX5_landOf 9 = .ok (.iaload, 1) := by decide +kernel
theorem dX5_landOf_10 : decode cX5_landOf 10 = .ok (.invokevirtual 32, 3) := by decide +kernel
theorem dX5_landOf_13 : decode cX5_landOf 13 = .ok (.ireturn, 1) := by decide +kernel
theorem dX5_isNeedle_0 : decode cX5_isNeedle 0 = .ok (.aload_n 0, 1) := by decide +kernel
theorem dX5_isNeedle_1 : decode cX5_isNeedle 1 = .ok (.getfield 11, 3) := by decide +kernel
theorem dX5_isNeedle_4 : decode cX5_isNeedle 4 = .ok (.iload_n 1, 1) := by decide +kernel
theorem dX5_isNeedle_5 : decode cX5_isNeedle 5 = .ok (.iaload, 1) := by decide +kernel
theorem dX5_isNeedle_6 : decode cX5_isNeedle 6 = .ok (.iconst 4, 1) := by decide +kernel
theorem dX5_isNeedle_7 : decode cX5_isNeedle 7 = .ok (.if_icmp .ne 7, 3) := by decide +kernel
theorem dX5_isNeedle_10 : decode cX5_isNeedle 10 = .ok (.iconst 1, 1) := by decide +kernel
theorem dX5_isNeedle_11 : decode cX5_isNeedle 11 = .ok (.goto 4, 3) := by decide +kernel
theorem dX5_isNeedle_14 : decode cX5_isNeedle 14 = .ok (.iconst 0, 1) := by decide +kernel
theorem dX5_isNeedle_15 : decode cX5_isNeedle 15 = .ok (.ireturn, 1) := by decide +kernel
theorem dX5_isOf_0 : decode cX5_isOf 0 = .ok (.iload_n 2, 1) := by decide +kernel
theorem dX5_isOf_1 : decode cX5_isOf 1 = .ok (.ifCond .eq 28, 3) := by decide +kernel
theorem dX5_isOf_4 : decode cX5_isOf 4 = .ok (.iload_n 2, 1) := by decide +kernel
theorem dX5_isOf_5 : decode cX5_isOf 5 = .ok (.aload_n 0, 1) := by decide +kernel
theorem dX5_isOf_6 : decode cX5_isOf 6 = .ok (.getfield 11, 3) := by decide +kernel
theorem dX5_isOf_9 : decode cX5_isOf 9 = .ok (.iload_n 1, 1) := by decide +kernel
theorem dX5_isOf_10 : decode cX5_isOf 10 = .ok (.iaload, 1) := by decide +kernel
theorem dX5_isOf_11 : decode cX5_isOf 11 = .ok (.if_icmp .eq 18, 3) := by decide +kernel
theorem dX5_isOf_14 : decode cX5_isOf 14 = .ok (.iload_n 2, 1) := by decide +kernel
theorem dX5_isOf_15 : decode cX5_isOf 15 = .ok (.iconst 2, 1) := by decide +kernel
theorem dX5_isOf_16 : decode cX5_isOf 16 = .ok (.if_icmp .ne 17, 3) := by decide +kernel
theorem dX5_isOf_19 : decode cX5_isOf 19 = .ok (.aload_n 0, 1) := by decide +kernel
theorem dX5_isOf_20 : decode cX5_isOf 20 = .ok (.getfield 11, 3) := by decide +kernel
theorem dX5_isOf_23 : decode cX5_isOf 23 = .ok (.iload_n 1, 1) := by decide +kernel
theorem dX5_isOf_24 : decode cX5_isOf 24 = .ok (.iaload, 1) := by decide +kernel
theorem dX5_isOf_25 : decode cX5_isOf 25 = .ok (.iconst 5, 1) := by decide +kernel
theorem dX5_isOf_26 : decode cX5_isOf 26 = .ok (.if_icmp .ne 7, 3) := by decide +kernel
theorem dX5_isOf_29 : decode cX5_isOf 29 = .ok (.iconst 1, 1) := by decide +kernel
theorem dX5_isOf_30 : decode cX5_isOf 30 = .ok (.goto 4, 3) := by decide +kernel
theorem dX5_isOf_33 : decode cX5_isOf 33 = .ok (.iconst 0, 1) := by decide +kernel
theorem dX5_isOf_34 : decode cX5_isOf 34 = .ok (.ireturn, 1) := by decide +kernel
theorem dX5_anyOn_0 : decode cX5_anyOn 0 = .ok (.iconst 0, 1) := by decide +kernel
theorem dX5_anyOn_1 : decode cX5_anyOn 1 = .ok (.istore_n 2, 1) := by decide +kernel
theorem dX5_anyOn_2 : decode cX5_anyOn 2 = .ok (.iload_n 2, 1) := by decide +kernel
theorem dX5_anyOn_3 : decode cX5_anyOn 3 = .ok (.aload_n 0, 1) := by decide +kernel
theorem dX5_anyOn_4 : decode cX5_anyOn 4 = .ok (.getfield 25, 3) := by decide +kernel
theorem dX5_anyOn_7 : decode cX5_anyOn 7 = .ok (.if_icmp .ge 21, 3) := by decide +kernel
theorem dX5_anyOn_10 : decode cX5_anyOn 10 = .ok (.aload_n 0, 1) := by decide +kernel
theorem dX5_anyOn_11 : decode cX5_anyOn 11 = .ok (.getfield 15, 3) := by decide +kernel
theorem dX5_anyOn_14 : decode cX5_anyOn 14 = .ok (.iload_n 2, 1) := by decide +kernel
theorem dX5_anyOn_15 : decode cX5_anyOn 15 = .ok (.iaload, 1) := by decide +kernel
theorem dX5_anyOn_16 : decode cX5_anyOn 16 = .ok (.iload_n 1, 1) := by decide +kernel
theorem dX5_anyOn_17 : decode cX5_anyOn 17 = .ok (.if_icmp .ne 5, 3) := by decide +kernel
theorem dX5_anyOn_20 : decode cX5_anyOn 20 = .ok (.iconst 1, 1) := by decide +kernel
theorem dX5_anyOn_21 : decode cX5_anyOn 21 = .ok (.ireturn, 1) := by decide +kernel
theorem dX5_anyOn_22 : decode cX5_anyOn 22 = .ok (.iinc 2 1, 3) := by decide +kernel
theorem dX5_anyOn_25 : decode cX5_anyOn 25 = .ok (.goto (-23), 3) := by decide +kernel
theorem dX5_anyOn_28 : decode cX5_anyOn 28 = .ok (.iconst 0, 1) := by decide +kernel
theorem dX5_anyOn_29 : decode cX5_anyOn 29 = .ok (.ireturn, 1) := by decide +kernel
theorem dX5_howManyOn_0 : decode cX5_howManyOn 0 = .ok (.iconst 0, 1) := by decide +kernel
theorem dX5_howManyOn_1 : decode cX5_howManyOn 1 = .ok (.istore_n 2, 1) := by decide +kernel
theorem dX5_howManyOn_2 : decode cX5_howManyOn 2 = .ok (.iconst 0, 1) := by decide +kernel
theorem dX5_howManyOn_3 : decode cX5_howManyOn 3 = .ok (.istore_n 3, 1) := by decide +kernel
theorem dX5_howManyOn_4 : decode cX5_howManyOn 4 = .ok (.iload_n 3, 1) := by decide +kernel
theorem dX5_howManyOn_5 : decode cX5_howManyOn 5 = .ok (.aload_n 0, 1) := by decide +kernel
theorem dX5_howManyOn_6 : decode cX5_howManyOn 6 = .ok (.getfield 25, 3) := by decide +kernel
theorem dX5_howManyOn_9 : decode cX5_howManyOn 9 = .ok (.if_icmp .ge 21, 3) := by decide +kernel
theorem dX5_howManyOn_12 : decode cX5_howManyOn 12 = .ok (.aload_n 0, 1) := by decide +kernel
theorem dX5_howManyOn_13 : decode cX5_howManyOn 13 = .ok (.iload_n 3, 1) := by decide +kernel
theorem dX5_howManyOn_14 : decode cX5_howManyOn 14 = .ok (.invokevirtual 38, 3) := by decide +kernel
theorem dX5_howManyOn_17 : decode cX5_howManyOn 17 = .ok (.iload_n 1, 1) := by decide +kernel
theorem dX5_howManyOn_18 : decode cX5_howManyOn 18 = .ok (.if_icmp .ne 6, 3) := by decide +kernel
theorem dX5_howManyOn_21 : decode cX5_howManyOn 21 = .ok (.iinc 2 1, 3) := by decide +kernel
theorem dX5_howManyOn_24 : decode cX5_howManyOn 24 = .ok (.iinc 3 1, 3) := by decide +kernel
theorem dX5_howManyOn_27 : decode cX5_howManyOn 27 = .ok (.goto (-23), 3) := by decide +kernel
theorem dX5_howManyOn_30 : decode cX5_howManyOn 30 = .ok (.iload_n 2, 1) := by decide +kernel
theorem dX5_howManyOn_31 : decode cX5_howManyOn 31 = .ok (.ireturn, 1) := by decide +kernel
theorem dX5_leadsInto_0 : decode cX5_leadsInto 0 = .ok (.aload_n 0, 1) := by decide +kernel
theorem dX5_leadsInto_1 : decode cX5_leadsInto 1 = .ok (.getfield 11, 3) := by decide +kernel
theorem dX5_leadsInto_4 : decode cX5_leadsInto 4 = .ok (.iload_n 1, 1) := by decide +kernel
theorem dX5_leadsInto_5 : decode cX5_leadsInto 5 = .ok (.iaload, 1) := by decide +kernel
theorem dX5_leadsInto_6 : decode cX5_leadsInto 6 = .ok (.aload_n 0, 1) := by decide +kernel
theorem dX5_leadsInto_7 : decode cX5_leadsInto 7 = .ok (.getfield 11, 3) := by decide +kernel
theorem dX5_leadsInto_10 : decode cX5_leadsInto 10 = .ok (.iload_n 2, 1) := by decide +kernel
theorem dX5_leadsInto_11 : decode cX5_leadsInto 11 = .ok (.iaload, 1) := by decide +kernel
theorem dX5_leadsInto_12 : decode cX5_leadsInto 12 = .ok (.if_icmp .eq 5, 3) := by decide +kernel
theorem dX5_leadsInto_15 : decode cX5_leadsInto 15 = .ok (.iconst 0, 1) := by decide +kernel
theorem dX5_leadsInto_16 : decode cX5_leadsInto 16 = .ok (.ireturn, 1) := by decide +kernel
theorem dX5_leadsInto_17 : decode cX5_leadsInto 17 = .ok (.aload_n 0, 1) := by decide +kernel
theorem dX5_leadsInto_18 : decode cX5_leadsInto 18 = .ok (.getfield 11, 3) := by decide +kernel
theorem dX5_leadsInto_21 : decode cX5_leadsInto 21 = .ok (.iload_n 1, 1) := by decide +kernel
theorem dX5_leadsInto_22 : decode cX5_leadsInto 22 = .ok (.iaload, 1) := by decide +kernel
theorem dX5_leadsInto_23 : decode cX5_leadsInto 23 = .ok (.tableswitch 82 1 4 #[29, 82, 55, 80], 29) := by decide +kernel
theorem dX5_leadsInto_52 : decode cX5_leadsInto 52 = .ok (.aload_n 0, 1) := by decide +kernel
theorem dX5_leadsInto_53 : decode cX5_leadsInto 53 = .ok (.getfield 18, 3) := by decide +kernel
theorem dX5_leadsInto_56 : decode cX5_leadsInto 56 = .ok (.iload_n 1, 1) := by decide +kernel
theorem dX5_leadsInto_57 : decode cX5_leadsInto 57 = .ok (.iaload, 1) := by decide +kernel
theorem dX5_leadsInto_58 : decode cX5_leadsInto 58 = .ok (.aload_n 0, 1) := by decide +kernel
theorem dX5_leadsInto_59 : decode cX5_leadsInto 59 = .ok (.getfield 18, 3) := by decide +kernel
theorem dX5_leadsInto_62 : decode cX5_leadsInto 62 = .ok (.iload_n 2, 1) := by decide +kernel
theorem dX5_leadsInto_63 : decode cX5_leadsInto 63 = .ok (.iaload, 1) := by decide +kernel
theorem dX5_leadsInto_64 : decode cX5_leadsInto 64 = .ok (.isub, 1) := by decide +kernel
theorem dX5_leadsInto_65 : decode cX5_leadsInto 65 = .ok (.invokestatic 41, 3) := by decide +kernel
theorem dX5_leadsInto_68 : decode cX5_leadsInto 68 = .ok (.iconst 1, 1) := by decide +kernel
theorem dX5_leadsInto_69 : decode cX5_leadsInto 69 = .ok (.if_icmp .gt 7, 3) := by decide +kernel
theorem dX5_leadsInto_72 : decode cX5_leadsInto 72 = .ok (.iconst 1, 1) := by decide +kernel
theorem dX5_leadsInto_73 : decode cX5_leadsInto 73 = .ok (.goto 4, 3) := by decide +kernel
theorem dX5_leadsInto_76 : decode cX5_leadsInto 76 = .ok (.iconst 0, 1) := by decide +kernel
theorem dX5_leadsInto_77 : decode cX5_leadsInto 77 = .ok (.ireturn, 1) := by decide +kernel
theorem dX5_leadsInto_78 : decode cX5_leadsInto 78 = .ok (.aload_n 0, 1) := by decide +kernel
theorem dX5_leadsInto_79 : decode cX5_leadsInto 79 = .ok (.getfield 18, 3) := by decide +kernel
theorem dX5_leadsInto_82 : decode cX5_leadsInto 82 = .ok (.iload_n 1, 1) := by decide +kernel
theorem dX5_leadsInto_83 : decode cX5_leadsInto 83 = .ok (.iaload, 1) := by decide +kernel
theorem dX5_leadsInto_84 : decode cX5_leadsInto 84 = .ok (.iconst 4, 1) := by decide +kernel
theorem dX5_leadsInto_85 : decode cX5_leadsInto 85 = .ok (.irem, 1) := by decide +kernel
theorem dX5_leadsInto_86 : decode cX5_leadsInto 86 = .ok (.aload_n 0, 1) := by decide +kernel
theorem dX5_leadsInto_87 : decode cX5_leadsInto 87 = .ok (.getfield 18, 3) := by decide +kernel
theorem dX5_leadsInto_90 : decode cX5_leadsInto 90 = .ok (.iload_n 2, 1) := by decide +kernel
theorem dX5_leadsInto_91 : decode cX5_leadsInto 91 = .ok (.iaload, 1) := by decide +kernel
theorem dX5_leadsInto_92 : decode cX5_leadsInto 92 = .ok (.iconst 4, 1) := by decide +kernel
theorem dX5_leadsInto_93 : decode cX5_leadsInto 93 = .ok (.irem, 1) := by decide +kernel
theorem dX5_leadsInto_94 : decode cX5_leadsInto 94 = .ok (.if_icmp .ne 7, 3) := by decide +kernel
theorem dX5_leadsInto_97 : decode cX5_leadsInto 97 = .ok (.iconst 1, 1) := by decide +kernel
theorem dX5_leadsInto_98 : decode cX5_leadsInto 98 = .ok (.goto 4, 3) := by decide +kernel
theorem dX5_leadsInto_101 : decode cX5_leadsInto 101 = .ok (.iconst 0, 1) := by decide +kernel
theorem dX5_leadsInto_102 : decode cX5_leadsInto 102 = .ok (.ireturn, 1) := by decide +kernel
theorem dX5_leadsInto_103 : decode cX5_leadsInto 103 = .ok (.iconst 0, 1) := by decide +kernel
theorem dX5_leadsInto_104 : decode cX5_leadsInto 104 = .ok (.ireturn, 1) := by decide +kernel
theorem dX5_leadsInto_105 : decode cX5_leadsInto 105 = .ok (.aload_n 0, 1) := by decide +kernel
theorem dX5_leadsInto_106 : decode cX5_leadsInto 106 = .ok (.getfield 18, 3) := by decide +kernel
theorem dX5_leadsInto_109 : decode cX5_leadsInto 109 = .ok (.iload_n 1, 1) := by decide +kernel
theorem dX5_leadsInto_110 : decode cX5_leadsInto 110 = .ok (.iaload, 1) := by decide +kernel
theorem dX5_leadsInto_111 : decode cX5_leadsInto 111 = .ok (.aload_n 0, 1) := by decide +kernel
theorem dX5_leadsInto_112 : decode cX5_leadsInto 112 = .ok (.getfield 18, 3) := by decide +kernel
theorem dX5_leadsInto_115 : decode cX5_leadsInto 115 = .ok (.iload_n 2, 1) := by decide +kernel
theorem dX5_leadsInto_116 : decode cX5_leadsInto 116 = .ok (.iaload, 1) := by decide +kernel
theorem dX5_leadsInto_117 : decode cX5_leadsInto 117 = .ok (.if_icmp .ne 7, 3) := by decide +kernel
theorem dX5_leadsInto_120 : decode cX5_leadsInto 120 = .ok (.iconst 1, 1) := by decide +kernel
theorem dX5_leadsInto_121 : decode cX5_leadsInto 121 = .ok (.goto 4, 3) := by decide +kernel
theorem dX5_leadsInto_124 : decode cX5_leadsInto 124 = .ok (.iconst 0, 1) := by decide +kernel
theorem dX5_leadsInto_125 : decode cX5_leadsInto 125 = .ok (.ireturn, 1) := by decide +kernel
theorem dX5_goingOn_0 : decode cX5_goingOn 0 = .ok (.iconst 0, 1) := by decide +kernel
theorem dX5_goingOn_1 : decode cX5_goingOn 1 = .ok (.istore 5, 2) := by decide +kernel
theorem dX5_goingOn_3 : decode cX5_goingOn 3 = .ok (.iconst 0, 1) := by decide +kernel
theorem dX5_goingOn_4 : decode cX5_goingOn 4 = .ok (.istore 6, 2) := by decide +kernel
theorem dX5_goingOn_6 : decode cX5_goingOn 6 = .ok (.iload 6, 2) := by decide +kernel
theorem dX5_goingOn_8 : decode cX5_goingOn 8 = .ok (.aload_n 0, 1) := by decide +kernel
theorem dX5_goingOn_9 : decode cX5_goingOn 9 = .ok (.getfield 25, 3) := by decide +kernel
theorem dX5_goingOn_12 : decode cX5_goingOn 12 = .ok (.if_icmp .ge 34, 3) := by decide +kernel
theorem dX5_goingOn_15 : decode cX5_goingOn 15 = .ok (.aload_n 0, 1) := by decide +kernel
theorem dX5_goingOn_16 : decode cX5_goingOn 16 = .ok (.iload 6, 2) := by decide +kernel
theorem dX5_goingOn_18 : decode cX5_goingOn 18 = .ok (.invokevirtual 38, 3) := by decide +kernel
theorem dX5_goingOn_21 : decode cX5_goingOn 21 = .ok (.iload_n 1, 1) := by decide +kernel
theorem dX5_goingOn_22 : decode cX5_goingOn 22 = .ok (.if_icmp .ne 18, 3) := by decide +kernel
theorem dX5_goingOn_25 : decode cX5_goingOn 25 = .ok (.iload 5, 2) := by decide +kernel
theorem dX5_goingOn_27 : decode cX5_goingOn 27 = .ok (.aload_n 0, 1) := by decide +kernel
theorem dX5_goingOn_28 : decode cX5_goingOn 28 = .ok (.iload 6, 2) := by decide +kernel
theorem dX5_goingOn_30 : decode cX5_goingOn 30 = .ok (.iload_n 2, 1) := by decide +kernel
theorem dX5_goingOn_31 : decode cX5_goingOn 31 = .ok (.iload_n 3, 1) := by decide +kernel
theorem dX5_goingOn_32 : decode cX5_goingOn 32 = .ok (.iload 4, 2) := by decide +kernel
theorem dX5_goingOn_34 : decode cX5_goingOn 34 = .ok (.invokevirtual 46, 3) := by decide +kernel
theorem dX5_goingOn_37 : decode cX5_goingOn 37 = .ok (.iadd, 1) := by decide +kernel
theorem dX5_goingOn_38 : decode cX5_goingOn 38 = .ok (.istore 5, 2) := by decide +kernel
theorem dX5_goingOn_40 : decode cX5_goingOn 40 = .ok (.iinc 6 1, 3) := by decide +kernel
theorem dX5_goingOn_43 : decode cX5_goingOn 43 = .ok (.goto (-37), 3) := by decide +kernel
theorem dX5_goingOn_46 : decode cX5_goingOn 46 = .ok (.iload 5, 2) := by decide +kernel
theorem dX5_goingOn_48 : decode cX5_goingOn 48 = .ok (.ireturn, 1) := by decide +kernel
theorem dX5_goingOnFrom_0 : decode cX5_goingOnFrom 0 = .ok (.iconst 0, 1) := by decide +kernel
theorem dX5_goingOnFrom_1 : decode cX5_goingOnFrom 1 = .ok (.istore 5, 2) := by decide +kernel
theorem dX5_goingOnFrom_3 : decode cX5_goingOnFrom 3 = .ok (.iconst 0, 1) := by decide +kernel
theorem dX5_goingOnFrom_4 : decode cX5_goingOnFrom 4 = .ok (.istore 6, 2) := by decide +kernel
theorem dX5_goingOnFrom_6 : decode cX5_goingOnFrom 6 = .ok (.iload 6, 2) := by decide +kernel
theorem dX5_goingOnFrom_8 : decode cX5_goingOnFrom 8 = .ok (.aload_n 0, 1) := by decide +kernel
theorem dX5_goingOnFrom_9 : decode cX5_goingOnFrom 9 = .ok (.getfield 25, 3) := by decide +kernel
theorem dX5_goingOnFrom_12 : decode cX5_goingOnFrom 12 = .ok (.if_icmp .ge 86, 3) := by decide +kernel
theorem dX5_goingOnFrom_15 : decode cX5_goingOnFrom 15 = .ok (.aload_n 0, 1) := by decide +kernel
theorem dX5_goingOnFrom_16 : decode cX5_goingOnFrom 16 = .ok (.getfield 11, 3) := by decide +kernel
theorem dX5_goingOnFrom_19 : decode cX5_goingOnFrom 19 = .ok (.iload 6, 2) := by decide +kernel
theorem dX5_goingOnFrom_21 : decode cX5_goingOnFrom 21 = .ok (.iaload, 1) := by decide +kernel
theorem dX5_goingOnFrom_22 : decode cX5_goingOnFrom 22 = .ok (.aload_n 0, 1) := by decide +kernel
theorem dX5_goingOnFrom_23 : decode cX5_goingOnFrom 23 = .ok (.getfield 11, 3) := by decide +kernel
theorem dX5_goingOnFrom_26 : decode cX5_goingOnFrom 26 = .ok (.iload_n 1, 1) := by decide +kernel
theorem dX5_goingOnFrom_27 : decode cX5_goingOnFrom 27 = .ok (.iaload, 1) := by decide +kernel
theorem dX5_goingOnFrom_28 : decode cX5_goingOnFrom 28 = .ok (.if_icmp .ne 64, 3) := by decide +kernel
theorem dX5_goingOnFrom_31 : decode cX5_goingOnFrom 31 = .ok (.aload_n 0, 1) := by decide +kernel
theorem dX5_goingOnFrom_32 : decode cX5_goingOnFrom 32 = .ok (.iload 6, 2) := by decide +kernel
theorem dX5_goingOnFrom_34 : decode cX5_goingOnFrom 34 = .ok (.invokevirtual 38, 3) := by decide +kernel
theorem dX5_goingOnFrom_37 : decode cX5_goingOnFrom 37 = .ok (.iload_n 2, 1) := by decide +kernel
theorem dX5_goingOnFrom_38 : decode cX5_goingOnFrom 38 = .ok (.if_icmp .ne 54, 3) := by decide +kernel
theorem dX5_goingOnFrom_41 : decode cX5_goingOnFrom 41 = .ok (.aload_n 0, 1) := by decide +kernel
theorem dX5_goingOnFrom_42 : decode cX5_goingOnFrom 42 = .ok (.getfield 15, 3) := by decide +kernel
theorem dX5_goingOnFrom_45 : decode cX5_goingOnFrom 45 = .ok (.iload_n 1, 1) := by decide +kernel
theorem dX5_goingOnFrom_46 : decode cX5_goingOnFrom 46 = .ok (.iaload, 1) := by decide +kernel
theorem dX5_goingOnFrom_47 : decode cX5_goingOnFrom 47 = .ok (.aload_n 0, 1) := by decide +kernel
theorem dX5_goingOnFrom_48 : decode cX5_goingOnFrom 48 = .ok (.getfield 15, 3) := by decide +kernel
theorem dX5_goingOnFrom_51 : decode cX5_goingOnFrom 51 = .ok (.iload 6, 2) := by decide +kernel
theorem dX5_goingOnFrom_53 : decode cX5_goingOnFrom 53 = .ok (.iaload, 1) := by decide +kernel
theorem dX5_goingOnFrom_54 : decode cX5_goingOnFrom 54 = .ok (.iload_n 3, 1) := by decide +kernel
theorem dX5_goingOnFrom_55 : decode cX5_goingOnFrom 55 = .ok (.iload 4, 2) := by decide +kernel
theorem dX5_goingOnFrom_57 : decode cX5_goingOnFrom 57 = .ok (.invokestatic 50, 3) := by decide +kernel
theorem dX5_goingOnFrom_60 : decode cX5_goingOnFrom 60 = .ok (.ifCond .eq 32, 3) := by decide +kernel
theorem dX5_goingOnFrom_63 : decode cX5_goingOnFrom 63 = .ok (.iload 5, 2) := by decide +kernel
theorem dX5_goingOnFrom_65 : decode cX5_goingOnFrom 65 = .ok (.aload_n 0, 1) := by decide +kernel
theorem dX5_goingOnFrom_66 : decode cX5_goingOnFrom 66 = .ok (.iload_n 1, 1) := by decide +kernel
theorem dX5_goingOnFrom_67 : decode cX5_goingOnFrom 67 = .ok (.iload 6, 2) := by decide +kernel
theorem dX5_goingOnFrom_69 : decode cX5_goingOnFrom 69 = .ok (.invokevirtual 54, 3) := by decide +kernel
theorem dX5_goingOnFrom_72 : decode cX5_goingOnFrom 72 = .ok (.ifCond .eq 11, 3) := by decide +kernel
theorem dX5_goingOnFrom_75 : decode cX5_goingOnFrom 75 = .ok (.aload_n 0, 1) := by decide +kernel
theorem dX5_goingOnFrom_76 : decode cX5_goingOnFrom 76 = .ok (.iload_n 1, 1) := by decide +kernel
theorem dX5_goingOnFrom_77 : decode cX5_goingOnFrom 77 = .ok (.invokevirtual 58, 3) := by decide +kernel
theorem dX5_goingOnFrom_80 : decode cX5_goingOnFrom 80 = .ok (.goto 9, 3) := by decide +kernel
theorem dX5_goingOnFrom_83 : decode cX5_goingOnFrom 83 = .ok (.aload_n 0, 1) := by decide +kernel
theorem dX5_goingOnFrom_84 : decode cX5_goingOnFrom 84 = .ok (.iload_n 1, 1) := by decide +kernel
theorem dX5_goingOnFrom_85 : decode cX5_goingOnFrom 85 = .ok (.invokevirtual 58, 3) := by decide +kernel
theorem dX5_goingOnFrom_88 : decode cX5_goingOnFrom 88 = .ok (.ineg, 1) := by decide +kernel
theorem dX5_goingOnFrom_89 : decode cX5_goingOnFrom 89 = .ok (.iadd, 1) := by decide +kernel
theorem dX5_goingOnFrom_90 : decode cX5_goingOnFrom 90 = .ok (.istore 5, 2) := by decide +kernel
theorem dX5_goingOnFrom_92 : decode cX5_goingOnFrom 92 = .ok (.iinc 6 1, 3) := by decide +kernel
theorem dX5_goingOnFrom_95 : decode cX5_goingOnFrom 95 = .ok (.goto (-89), 3) := by decide +kernel
theorem dX5_goingOnFrom_98 : decode cX5_goingOnFrom 98 = .ok (.iload 5, 2) := by decide +kernel
theorem dX5_goingOnFrom_100 : decode cX5_goingOnFrom 100 = .ok (.ireturn, 1) := by decide +kernel
theorem dX5_isNextTo_0 : decode cX5_isNextTo 0 = .ok (.iload_n 0, 1) := by decide +kernel
theorem dX5_isNextTo_1 : decode cX5_isNextTo 1 = .ok (.bipush 16, 2) := by decide +kernel
theorem dX5_isNextTo_3 : decode cX5_isNextTo 3 = .ok (.idiv, 1) := by decide +kernel
theorem dX5_isNextTo_4 : decode cX5_isNextTo 4 = .ok (.iload_n 1, 1) := by decide +kernel
theorem dX5_isNextTo_5 : decode cX5_isNextTo 5 = .ok (.bipush 16, 2) := by decide +kernel
theorem dX5_isNextTo_7 : decode cX5_isNextTo 7 = .ok (.idiv, 1) := by decide +kernel
theorem dX5_isNextTo_8 : decode cX5_isNextTo 8 = .ok (.iload_n 2, 1) := by decide +kernel
theorem dX5_isNextTo_9 : decode cX5_isNextTo 9 = .ok (.iadd, 1) := by decide +kernel
theorem dX5_isNextTo_10 : decode cX5_isNextTo 10 = .ok (.if_icmp .ne 26, 3) := by decide +kernel
theorem dX5_isNextTo_13 : decode cX5_isNextTo 13 = .ok (.iload_n 0, 1) := by decide +kernel
theorem dX5_isNextTo_14 : decode cX5_isNextTo 14 = .ok (.bipush 16, 2) := by decide +kernel
theorem dX5_isNextTo_16 : decode cX5_isNextTo 16 = .ok (.irem, 1) := by decide +kernel
theorem dX5_isNextTo_17 : decode cX5_isNextTo 17 = .ok (.iload_n 1, 1) := by decide +kernel
theorem dX5_isNextTo_18 : decode cX5_isNextTo 18 = .ok (.bipush 16, 2) := by decide +kernel
theorem dX5_isNextTo_20 : decode cX5_isNextTo 20 = .ok (.irem, 1) := by decide +kernel
theorem dX5_isNextTo_21 : decode cX5_isNextTo 21 = .ok (.iload_n 3, 1) := by decide +kernel
theorem dX5_isNextTo_22 : decode cX5_isNextTo 22 = .ok (.invokestatic 61, 3) := by decide +kernel
theorem dX5_isNextTo_25 : decode cX5_isNextTo 25 = .ok (.invokestatic 65, 3) := by decide +kernel
theorem dX5_isNextTo_28 : decode cX5_isNextTo 28 = .ok (.iconst 1, 1) := by decide +kernel
theorem dX5_isNextTo_29 : decode cX5_isNextTo 29 = .ok (.if_icmp .ne 7, 3) := by decide +kernel
theorem dX5_isNextTo_32 : decode cX5_isNextTo 32 = .ok (.iconst 1, 1) := by decide +kernel
theorem dX5_isNextTo_33 : decode cX5_isNextTo 33 = .ok (.goto 4, 3) := by decide +kernel
theorem dX5_isNextTo_36 : decode cX5_isNextTo 36 = .ok (.iconst 0, 1) := by decide +kernel
theorem dX5_isNextTo_37 : decode cX5_isNextTo 37 = .ok (.ireturn, 1) := by decide +kernel
theorem dX5_told_0 : decode cX5_told 0 = .ok (.iconst 0, 1) := by decide +kernel
theorem dX5_told_1 : decode cX5_told 1 = .ok (.istore_n 3, 1) := by decide +kernel
theorem dX5_told_2 : decode cX5_told 2 = .ok (.iload_n 3, 1) := by decide +kernel
theorem dX5_told_3 : decode cX5_told 3 = .ok (.aload_n 0, 1) := by decide +kernel
theorem dX5_told_4 : decode cX5_told 4 = .ok (.getfield 25, 3) := by decide +kernel
theorem dX5_told_7 : decode cX5_told 7 = .ok (.if_icmp .ge 56, 3) := by decide +kernel
theorem dX5_told_10 : decode cX5_told 10 = .ok (.lload_n 1, 1) := by decide +kernel
theorem dX5_told_11 : decode cX5_told 11 = .ok (.aload_n 0, 1) := by decide +kernel
theorem dX5_told_12 : decode cX5_told 12 = .ok (.getfield 11, 3) := by decide +kernel
theorem dX5_told_15 : decode cX5_told 15 = .ok (.iload_n 3, 1) := by decide +kernel
theorem dX5_told_16 : decode cX5_told 16 = .ok (.iaload, 1) := by decide +kernel
theorem dX5_told_17 : decode cX5_told 17 = .ok (.i2l, 1) := by decide +kernel
theorem dX5_told_18 : decode cX5_told 18 = .ok (.invokestatic 68, 3) := by decide +kernel
theorem dX5_told_21 : decode cX5_told 21 = .ok (.lstore_n 1, 1) := by decide +kernel
theorem dX5_told_22 : decode cX5_told 22 = .ok (.lload_n 1, 1) := by decide +kernel
theorem dX5_told_23 : decode cX5_told 23 = .ok (.aload_n 0, 1) := by decide +kernel
theorem dX5_told_24 : decode cX5_told 24 = .ok (.getfield 15, 3) := by decide +kernel
theorem dX5_told_27 : decode cX5_told 27 = .ok (.iload_n 3, 1) := by decide +kernel
theorem dX5_told_28 : decode cX5_told 28 = .ok (.iaload, 1) := by decide +kernel
theorem dX5_told_29 : decode cX5_told 29 = .ok (.i2l, 1) := by decide +kernel
theorem dX5_told_30 : decode cX5_told 30 = .ok (.invokestatic 68, 3) := by decide +kernel
theorem dX5_told_33 : decode cX5_told 33 = .ok (.lstore_n 1, 1) := by decide +kernel
theorem dX5_told_34 : decode cX5_told 34 = .ok (.lload_n 1, 1) := by decide +kernel
theorem dX5_told_35 : decode cX5_told 35 = .ok (.aload_n 0, 1) := by decide +kernel
theorem dX5_told_36 : decode cX5_told 36 = .ok (.getfield 18, 3) := by decide +kernel
theorem dX5_told_39 : decode cX5_told 39 = .ok (.iload_n 3, 1) := by decide +kernel
theorem dX5_told_40 : decode cX5_told 40 = .ok (.iaload, 1) := by decide +kernel
theorem dX5_told_41 : decode cX5_told 41 = .ok (.i2l, 1) := by decide +kernel
theorem dX5_told_42 : decode cX5_told 42 = .ok (.invokestatic 68, 3) := by decide +kernel
theorem dX5_told_45 : decode cX5_told 45 = .ok (.lstore_n 1, 1) := by decide +kernel
theorem dX5_told_46 : decode cX5_told 46 = .ok (.lload_n 1, 1) := by decide +kernel
theorem dX5_told_47 : decode cX5_told 47 = .ok (.aload_n 0, 1) := by decide +kernel
theorem dX5_told_48 : decode cX5_told 48 = .ok (.iload_n 3, 1) := by decide +kernel
theorem dX5_told_49 : decode cX5_told 49 = .ok (.invokevirtual 58, 3) := by decide +kernel
theorem dX5_told_52 : decode cX5_told 52 = .ok (.i2l, 1) := by decide +kernel
theorem dX5_told_53 : decode cX5_told 53 = .ok (.invokestatic 68, 3) := by decide +kernel
theorem dX5_told_56 : decode cX5_told 56 = .ok (.lstore_n 1, 1) := by decide +kernel
theorem dX5_told_57 : decode cX5_told 57 = .ok (.iinc 3 1, 3) := by decide +kernel
theorem dX5_told_60 : decode cX5_told 60 = .ok (.goto (-58), 3) := by decide +kernel
theorem dX5_told_63 : decode cX5_told 63 = .ok (.lload_n 1, 1) := by decide +kernel
theorem dX5_told_64 : decode cX5_told 64 = .ok (.lreturn, 1) := by decide +kernel
theorem dX6_init_0 : decode cX6_init 0 = .ok (.aload_n 0, 1) := by decide +kernel
theorem dX6_init_1 : decode cX6_init 1 = .ok (.invokespecial 3, 3) := by decide +kernel
theorem dX6_init_4 : decode cX6_init 4 = .ok (.aload_n 0, 1) := by decide +kernel
theorem dX6_init_5 : decode cX6_init 5 = .ok (.bipush 50, 2) := by decide +kernel
theorem dX6_init_7 : decode cX6_init 7 = .ok (.newarray .int, 2) := by decide +kernel
theorem dX6_init_9 : decode cX6_init 9 = .ok (.putfield 11, 3) := by decide +kernel
theorem dX6_init_12 : decode cX6_init 12 = .ok (.return_, 1) := by decide +kernel
theorem dX6_size_0 : decode cX6_size 0 = .ok (.aload_n 0, 1) := by decide +kernel
theorem dX6_size_1 : decode cX6_size 1 = .ok (.getfield 15, 3) := by decide +kernel
theorem dX6_size_4 : decode cX6_size 4 = .ok (.ireturn, 1) := by decide +kernel
theorem dX6_letterAt_0 : decode cX6_letterAt 0 = .ok (.aload_n 0, 1) := by decide +kernel
theorem dX6_letterAt_1 : decode cX6_letterAt 1 = .ok (.getfield 11, 3) := by decide +kernel
theorem dX6_letterAt_4 : decode cX6_letterAt 4 = .ok (.iload_n 1, 1) := by decide +kernel
theorem dX6_letterAt_5 : decode cX6_letterAt 5 = .ok (.iaload, 1) := by decide +kernel
theorem dX6_letterAt_6 : decode cX6_letterAt 6 = .ok (.ireturn, 1) := by decide +kernel
theorem dX6_byteOf_0 : decode cX6_byteOf 0 = .ok (.lload_n 0, 1) := by decide +kernel
theorem dX6_byteOf_1 : decode cX6_byteOf 1 = .ok (.bipush 8, 2) := by decide +kernel
theorem dX6_byteOf_3 : decode cX6_byteOf 3 = .ok (.iload_n 2, 1) := by decide +kernel
theorem dX6_byteOf_4 : decode cX6_byteOf 4 = .ok (.imul, 1) := by decide +kernel
theorem dX6_byteOf_5 : decode cX6_byteOf 5 = .ok (.lushr, 1) := by decide +kernel
theorem dX6_byteOf_6 : decode cX6_byteOf 6 = .ok (.ldc2_w 19, 3) := by decide +kernel
theorem dX6_byteOf_9 : decode cX6_byteOf 9 = .ok (.land, 1) := by decide +kernel
theorem dX6_byteOf_10 : decode cX6_byteOf 10 = .ok (.l2i, 1) := by decide +kernel
theorem dX6_byteOf_11 : decode cX6_byteOf 11 = .ok (.ireturn, 1) := by decide +kernel
theorem dX6_isTold_0 : decode cX6_isTold 0 = .ok (.iconst 0, 1) := by decide +kernel
theorem dX6_isTold_1 : decode cX6_isTold 1 = .ok (.istore_n 2, 1) := by decide +kernel
theorem dX6_isTold_2 : decode cX6_isTold 2 = .ok (.iconst 0, 1) := by decide +kernel
theorem dX6_isTold_3 : decode cX6_isTold 3 = .ok (.istore_n 3, 1) := by decide +kernel
theorem dX6_isTold_4 : decode cX6_isTold 4 = .ok (.iload_n 3, 1) := by decide +kernel
theorem dX6_isTold_5 : decode cX6_isTold 5 = .ok (.bipush 8, 2) := by decide +kernel
theorem dX6_isTold_7 : decode cX6_isTold 7 = .ok (.if_icmp .ge 45, 3) := by decide +kernel
theorem dX6_isTold_10 : decode cX6_isTold 10 = .ok (.lload_n 0, 1) := by decide +kernel
theorem dX6_isTold_11 : decode cX6_isTold 11 = .ok (.iload_n 3, 1) := by decide +kernel
theorem dX6_isTold_12 : decode cX6_isTold 12 = .ok (.invokestatic 21, 3) := by decide +kernel
theorem dX6_isTold_15 : decode cX6_isTold 15 = .ok (.istore 4, 2) := by decide +kernel
theorem dX6_isTold_17 : decode cX6_isTold 17 = .ok (.iload 4, 2) := by decide +kernel
theorem dX6_isTold_19 : decode cX6_isTold 19 = .ok (.bipush 126, 2) := by decide +kernel
theorem dX6_isTold_21 : decode cX6_isTold 21 = .ok (.if_icmp .gt 12, 3) := by decide +kernel
theorem dX6_isTold_24 : decode cX6_isTold 24 = .ok (.iload_n 2, 1) := by decide +kernel
theorem dX6_isTold_25 : decode cX6_isTold 25 = .ok (.ifCond .eq 10, 3) := by decide +kernel
theorem dX6_isTold_28 : decode cX6_isTold 28 = .ok (.iload 4, 2) := by decide +kernel
theorem dX6_isTold_30 : decode cX6_isTold 30 = .ok (.ifCond .eq 5, 3) := by decide +kernel
theorem dX6_isTold_33 : decode cX6_isTold 33 = .ok (.iconst 0, 1) := by decide +kernel
theorem dX6_isTold_34 : decode cX6_isTold 34 = .ok (.ireturn, 1) := by decide +kernel
theorem dX6_isTold_35 : decode cX6_isTold 35 = .ok (.iload 4, 2) := by decide +kernel
theorem dX6_isTold_37 : decode cX6_isTold 37 = .ok (.ifCond .ne 7, 3) := by decide +kernel
theorem dX6_isTold_40 : decode cX6_isTold 40 = .ok (.iconst 1, 1) := by decide +kernel
theorem dX6_isTold_41 : decode cX6_isTold 41 = .ok (.goto 4, 3) := by decide +kernel
theorem dX6_isTold_44 : decode cX6_isTold 44 = .ok (.iconst 0, 1) := by decide +kernel
theorem dX6_isTold_45 : decode cX6_isTold 45 = .ok (.istore_n 2, 1) := by decide +kernel
theorem dX6_isTold_46 : decode cX6_isTold 46 = .ok (.iinc 3 1, 3) := by decide +kernel
theorem dX6_isTold_49 : decode cX6_isTold 49 = .ok (.goto (-45), 3) := by decide +kernel
theorem dX6_isTold_52 : decode cX6_isTold 52 = .ok (.iconst 1, 1) := by decide +kernel
theorem dX6_isTold_53 : decode cX6_isTold 53 = .ok (.ireturn, 1) := by decide +kernel
theorem dX6_howManyIn_0 : decode cX6_howManyIn 0 = .ok (.iconst 0, 1) := by decide +kernel
theorem dX6_howManyIn_1 : decode cX6_howManyIn 1 = .ok (.istore_n 2, 1) := by decide +kernel
theorem dX6_howManyIn_2 : decode cX6_howManyIn 2 = .ok (.iconst 0, 1) := by decide +kernel
theorem dX6_howManyIn_3 : decode cX6_howManyIn 3 = .ok (.istore_n 3, 1) := by decide +kernel
theorem dX6_howManyIn_4 : decode cX6_howManyIn 4 = .ok (.iload_n 3, 1) := by decide +kernel
theorem dX6_howManyIn_5 : decode cX6_howManyIn 5 = .ok (.bipush 8, 2) := by decide +kernel
theorem dX6_howManyIn_7 : decode cX6_howManyIn 7 = .ok (.if_icmp .ge 20, 3) := by decide +kernel
theorem dX6_howManyIn_10 : decode cX6_howManyIn 10 = .ok (.lload_n 0, 1) := by decide +kernel
theorem dX6_howManyIn_11 : decode cX6_howManyIn 11 = .ok (.iload_n 3, 1) := by decide +kernel
theorem dX6_howManyIn_12 : decode cX6_howManyIn 12 = .ok (.invokestatic 21, 3) := by decide +kernel
theorem dX6_howManyIn_15 : decode cX6_howManyIn 15 = .ok (.ifCond .eq 6, 3) := by decide +kernel
theorem dX6_howManyIn_18 : decode cX6_howManyIn 18 = .ok (.iinc 2 1, 3) := by decide +kernel
theorem dX6_howManyIn_21 : decode cX6_howManyIn 21 = .ok (.iinc 3 1, 3) := by decide +kernel
theorem dX6_howManyIn_24 : decode cX6_howManyIn 24 = .ok (.goto (-20), 3) := by decide +kernel
theorem dX6_howManyIn_27 : decode cX6_howManyIn 27 = .ok (.iload_n 2, 1) := by decide +kernel
theorem dX6_howManyIn_28 : decode cX6_howManyIn 28 = .ok (.ireturn, 1) := by decide +kernel
theorem dX6_hasRoomFor_0 : decode cX6_hasRoomFor 0 = .ok (.aload_n 0, 1) := by decide +kernel
theorem dX6_hasRoomFor_1 : decode cX6_hasRoomFor 1 = .ok (.getfield 15, 3) := by decide +kernel
theorem dX6_hasRoomFor_4 : decode cX6_hasRoomFor 4 = .ok (.lload_n 1, 1) := by decide +kernel
theorem dX6_hasRoomFor_5 : decode cX6_hasRoomFor 5 = .ok (.invokestatic 25, 3) := by decide +kernel
theorem dX6_hasRoomFor_8 : decode cX6_hasRoomFor 8 = .ok (.iadd, 1) := by decide +kernel
theorem dX6_hasRoomFor_9 : decode cX6_hasRoomFor 9 = .ok (.bipush 50, 2) := by decide +kernel
theorem dX6_hasRoomFor_11 : decode cX6_hasRoomFor 11 = .ok (.if_icmp .gt 7, 3) := by decide +kernel
theorem dX6_hasRoomFor_14 : decode cX6_hasRoomFor 14 = .ok (.iconst 1, 1) := by decide +kernel
theorem dX6_hasRoomFor_15 : decode cX6_hasRoomFor 15 = .ok (.goto 4, 3) := by decide +kernel
theorem dX6_hasRoomFor_18 : decode cX6_hasRoomFor 18 = .ok (.iconst 0, 1) := by decide +kernel
theorem dX6_hasRoomFor_19 : decode cX6_hasRoomFor 19 = .ok (.ireturn, 1) := by decide +kernel
theorem dX6_write_0 : decode cX6_write 0 = .ok (.lload_n 1, 1) := by decide +kernel
theorem dX6_write_1 : decode cX6_write 1 = .ok (.invokestatic 25, 3) := by decide +kernel
theorem dX6_write_4 : decode cX6_write 4 = .ok (.istore_n 3, 1) := by decide +kernel
theorem dX6_write_5 : decode cX6_write 5 = .ok (.iconst 0, 1) := by decide +kernel
theorem dX6_write_6 : decode cX6_write 6 = .ok (.istore 4, 2) := by decide +kernel
theorem dX6_write_8 : decode cX6_write 8 = .ok (.iload 4, 2) := by decide +kernel
theorem dX6_write_10 : decode cX6_write 10 = .ok (.iload_n 3, 1) := by decide +kernel
theorem dX6_write_11 : decode cX6_write 11 = .ok (.if_icmp .ge 27, 3) := by decide +kernel
theorem dX6_write_14 : decode cX6_write 14 = .ok (.aload_n 0, 1) := by decide +kernel
theorem dX6_write_15 : decode cX6_write 15 = .ok (.getfield 11, 3) := by decide +kernel
theorem dX6_write_18 : decode cX6_write 18 = .ok (.aload_n 0, 1) := by decide +kernel
theorem dX6_write_19 : decode cX6_write 19 = .ok (.getfield 15, 3) := by decide +kernel
theorem dX6_write_22 : decode cX6_write 22 = .ok (.iload 4, 2) := by decide +kernel
theorem dX6_write_24 : decode cX6_write 24 = .ok (.iadd, 1) := by decide +kernel
theorem dX6_write_25 : decode cX6_write 25 = .ok (.lload_n 1, 1) := by decide +kernel
theorem dX6_write_26 : decode cX6_write 26 = .ok (.iload 4, 2) := by decide +kernel
theorem dX6_write_28 : decode cX6_write 28 = .ok (.invokestatic 21, 3) := by decide +kernel
theorem dX6_write_31 : decode cX6_write 31 = .ok (.iastore, 1) := by decide +kernel
theorem dX6_write_32 : decode cX6_write 32 = .ok (.iinc 4 1, 3) := by decide +kernel
theorem dX6_write_35 : decode cX6_write 35 = .ok (.goto (-27), 3) := by decide +kernel
theorem dX6_write_38 : decode cX6_write 38 = .ok (.aload_n 0, 1) := by decide +kernel
theorem dX6_write_39 : decode cX6_write 39 = .ok (.dup, 1) := by decide +kernel
theorem dX6_write_40 : decode cX6_write 40 = .ok (.getfield 15, 3) := by decide +kernel
theorem dX6_write_43 : decode cX6_write 43 = .ok (.iload_n 3, 1) := by decide +kernel
theorem dX6_write_44 : decode cX6_write 44 = .ok (.iadd, 1) := by decide +kernel
theorem dX6_write_45 : decode cX6_write 45 = .ok (.putfield 15, 3) := by decide +kernel
theorem dX6_write_48 : decode cX6_write 48 = .ok (.aload_n 0, 1) := by decide +kernel
theorem dX6_write_49 : decode cX6_write 49 = .ok (.getfield 15, 3) := by decide +kernel
theorem dX6_write_52 : decode cX6_write 52 = .ok (.ireturn, 1) := by decide +kernel
theorem dX6_wipe_0 : decode cX6_wipe 0 = .ok (.aload_n 0, 1) := by decide +kernel
theorem dX6_wipe_1 : decode cX6_wipe 1 = .ok (.getfield 15, 3) := by decide +kernel
theorem dX6_wipe_4 : decode cX6_wipe 4 = .ok (.istore_n 1, 1) := by decide +kernel
theorem dX6_wipe_5 : decode cX6_wipe 5 = .ok (.aload_n 0, 1) := by decide +kernel
theorem dX6_wipe_6 : decode cX6_wipe 6 = .ok (.iconst 0, 1) := by decide +kernel
theorem dX6_wipe_7 : decode cX6_wipe 7 = .ok (.putfield 15, 3) := by decide +kernel
theorem dX6_wipe_10 : decode cX6_wipe 10 = .ok (.iload_n 1, 1) := by decide +kernel
theorem dX6_wipe_11 : decode cX6_wipe 11 = .ok (.ireturn, 1) := by decide +kernel
theorem dX6_faultPlace_0 : decode cX6_faultPlace 0 = .ok (.iconst 0, 1) := by decide +kernel
theorem dX6_faultPlace_1 : decode cX6_faultPlace 1 = .ok (.istore_n 1, 1) := by decide +kernel
theorem dX6_faultPlace_2 : decode cX6_faultPlace 2 = .ok (.iconst 0, 1) := by decide +kernel
theorem dX6_faultPlace_3 : decode cX6_faultPlace 3 = .ok (.istore_n 2, 1) := by decide +kernel
theorem dX6_faultPlace_4 : decode cX6_faultPlace 4 = .ok (.iload_n 2, 1) := by decide +kernel
theorem dX6_faultPlace_5 : decode cX6_faultPlace 5 = .ok (.aload_n 0, 1) := by decide +kernel
theorem dX6_faultPlace_6 : decode cX6_faultPlace 6 = .ok (.getfield 15, 3) := by decide +kernel
theorem dX6_faultPlace_9 : decode cX6_faultPlace 9 = .ok (.if_icmp .ge 27, 3) := by decide +kernel
theorem dX6_faultPlace_12 : decode cX6_faultPlace 12 = .ok (.iload_n 1, 1) := by decide +kernel
theorem dX6_faultPlace_13 : decode cX6_faultPlace 13 = .ok (.aload_n 0, 1) := by decide +kernel
theorem dX6_faultPlace_14 : decode cX6_faultPlace 14 = .ok (.getfield 11, 3) := by decide +kernel
theorem dX6_faultPlace_17 : decode cX6_faultPlace 17 = .ok (.iload_n 2, 1) := by decide +kernel
theorem dX6_faultPlace_18 : decode cX6_faultPlace 18 = .ok (.iaload, 1) := by decide +kernel
theorem dX6_faultPlace_19 : decode cX6_faultPlace 19 = .ok (.invokestatic 29, 3) := by decide +kernel
theorem dX6_faultPlace_22 : decode cX6_faultPlace 22 = .ok (.istore_n 1, 1) := by decide +kernel
theorem dX6_faultPlace_23 : decode cX6_faultPlace 23 = .ok (.iload_n 1, 1) := by decide +kernel
theorem dX6_faultPlace_24 : decode cX6_faultPlace 24 = .ok (.iconst (-1), 1) := by decide +kernel
theorem dX6_faultPlace_25 : decode cX6_faultPlace 25 = .ok (.if_icmp .ne 5, 3) := by decide +kernel
theorem dX6_faultPlace_28 : decode cX6_faultPlace 28 = .ok (.iload_n 2, 1) := by decide +kernel
theorem dX6_faultPlace_29 : decode cX6_faultPlace 29 = .ok (.ireturn, 1) := by decide +kernel
theorem dX6_faultPlace_30 : decode cX6_faultPlace 30 = .ok (.iinc 2 1, 3) := by decide +kernel
theorem dX6_faultPlace_33 : decode cX6_faultPlace 33 = .ok (.goto (-29), 3) := by decide +kernel
theorem dX6_faultPlace_36 : decode cX6_faultPlace 36 = .ok (.aload_n 0, 1) := by decide +kernel
theorem dX6_faultPlace_37 : decode cX6_faultPlace 37 = .ok (.getfield 15, 3) := by decide +kernel
theorem dX6_faultPlace_40 : decode cX6_faultPlace 40 = .ok (.ireturn, 1) := by decide +kernel
theorem dX6_isLaw_0 : decode cX6_isLaw 0 = .ok (.iconst 0, 1) := by decide +kernel
theorem dX6_isLaw_1 : decode cX6_isLaw 1 = .ok (.istore_n 1, 1) := by decide +kernel
theorem dX6_isLaw_2 : decode cX6_isLaw 2 = .ok (.iconst 0, 1) := by decide +kernel
theorem dX6_isLaw_3 : decode cX6_isLaw 3 = .ok (.istore_n 2, 1) := by decide +kernel
theorem dX6_isLaw_4 : decode cX6_isLaw 4 = .ok (.iload_n 2, 1) := by decide +kernel
theorem dX6_isLaw_5 : decode cX6_isLaw 5 = .ok (.aload_n 0, 1) := by decide +kernel
theorem dX6_isLaw_6 : decode cX6_isLaw 6 = .ok (.getfield 15, 3) := by decide +kernel
theorem dX6_isLaw_9 : decode cX6_isLaw 9 = .ok (.if_icmp .ge 20, 3) := by decide +kernel
theorem dX6_isLaw_12 : decode cX6_isLaw 12 = .ok (.iload_n 1, 1) := by decide +kernel
theorem dX6_isLaw_13 : decode cX6_isLaw 13 = .ok (.aload_n 0, 1) := by decide +kernel
theorem dX6_isLaw_14 : decode cX6_isLaw 14 = .ok (.getfield 11, 3) := by decide +kernel
theorem dX6_isLaw_17 : decode cX6_isLaw 17 = .ok (.iload_n 2, 1) := by decide +kernel
theorem dX6_isLaw_18 : decode cX6_isLaw 18 = .ok (.iaload, 1) := by decide +kernel
theorem dX6_isLaw_19 : decode cX6_isLaw 19 = .ok (.invokestatic 29, 3) := by decide +kernel
theorem dX6_isLaw_22 : decode cX6_isLaw 22 = .ok (.istore_n 1, 1) := by decide +kernel
theorem dX6_isLaw_23 : decode cX6_isLaw 23 = .ok (.iinc 2 1, 3) := by decide +kernel
theorem dX6_isLaw_26 : decode cX6_isLaw 26 = .ok (.goto (-22), 3) := by decide +kernel
theorem dX6_isLaw_29 : decode cX6_isLaw 29 = .ok (.iload_n 1, 1) := by decide +kernel
theorem dX6_isLaw_30 : decode cX6_isLaw 30 = .ok (.iconst 3, 1) := by decide +kernel
theorem dX6_isLaw_31 : decode cX6_isLaw 31 = .ok (.if_icmp .eq 20, 3) := by decide +kernel
theorem dX6_isLaw_34 : decode cX6_isLaw 34 = .ok (.iload_n 1, 1) := by decide +kernel
theorem dX6_isLaw_35 : decode cX6_isLaw 35 = .ok (.iconst 4, 1) := by decide +kernel
theorem dX6_isLaw_36 : decode cX6_isLaw 36 = .ok (.if_icmp .eq 15, 3) := by decide +kernel
theorem dX6_isLaw_39 : decode cX6_isLaw 39 = .ok (.iload_n 1, 1) := by decide +kernel
theorem dX6_isLaw_40 : decode cX6_isLaw 40 = .ok (.bipush 8, 2) := by decide +kernel
theorem dX6_isLaw_42 : decode cX6_isLaw 42 = .ok (.if_icmp .eq 9, 3) := by decide +kernel
theorem dX6_isLaw_45 : decode cX6_isLaw 45 = .ok (.iload_n 1, 1) := by decide +kernel
theorem dX6_isLaw_46 : decode cX6_isLaw 46 = .ok (.bipush 9, 2) := by decide +kernel
theorem dX6_isLaw_48 : decode cX6_isLaw 48 = .ok (.if_icmp .ne 7, 3) := by decide +kernel
theorem dX6_isLaw_51 : decode cX6_isLaw 51 = .ok (.iconst 1, 1) := by decide +kernel
theorem dX6_isLaw_52 : decode cX6_isLaw 52 = .ok (.goto 4, 3) := by decide +kernel
theorem dX6_isLaw_55 : decode cX6_isLaw 55 = .ok (.iconst 0, 1) := by decide +kernel
theorem dX6_isLaw_56 : decode cX6_isLaw 56 = .ok (.ireturn, 1) := by decide +kernel
theorem dX6_next_0 : decode cX6_next 0 = .ok (.iload_n 0, 1) := by decide +kernel
theorem dX6_next_1 : decode cX6_next 1 = .ok (.tableswitch 194 0 9 #[55, 70, 82, 95, 111, 116, 142, 158, 172, 189], 55) := by decide +kernel
theorem dX6_next_56 : decode cX6_next 56 = .ok (.iload_n 1, 1) := by decide +kernel
theorem dX6_next_57 : decode cX6_next 57 = .ok (.ldc 35, 2) := by decide +kernel
theorem dX6_next_59 : decode cX6_next 59 = .ok (.invokestatic 37, 3) := by decide +kernel
theorem dX6_next_62 : decode cX6_next 62 = .ok (.ifCond .eq 7, 3) := by decide +kernel
theorem dX6_next_65 : decode cX6_next 65 = .ok (.iconst 1, 1) := by decide +kernel
theorem dX6_next_66 : decode cX6_next 66 = .ok (.goto 4, 3) := by decide +kernel
theorem dX6_next_69 : decode cX6_next 69 = .ok (.iconst (-1), 1) := by decide +kernel
theorem dX6_next_70 : decode cX6_next 70 = .ok (.ireturn, 1) := by decide +kernel
theorem dX6_next_71 : decode cX6_next 71 = .ok (.iload_n 1, 1) := by decide +kernel
theorem dX6_next_72 : decode cX6_next 72 = .ok (.bipush 58, 2) := by decide +kernel
theorem dX6_next_74 : decode cX6_next 74 = .ok (.if_icmp .ne 7, 3) := by decide +kernel
theorem dX6_next_77 : decode cX6_next 77 = .ok (.iconst 2, 1) := by decide +kernel
theorem dX6_next_78 : decode cX6_next 78 = .ok (.goto 4, 3) := by decide +kernel
theorem dX6_next_81 : decode cX6_next 81 = .ok (.iconst (-1), 1) := by decide +kernel
theorem dX6_next_82 : decode cX6_next 82 = .ok (.ireturn, 1) := by decide +kernel
theorem dX6_next_83 : decode cX6_next 83 = .ok (.iload_n 1, 1) := by decide +kernel
theorem dX6_next_84 : decode cX6_next 84 = .ok (.invokestatic 41, 3) := by decide +kernel
theorem dX6_next_87 : decode cX6_next 87 = .ok (.ifCond .eq 7, 3) := by decide +kernel
theorem dX6_next_90 : decode cX6_next 90 = .ok (.iconst 3, 1) := by decide +kernel
theorem dX6_next_91 : decode cX6_next 91 = .ok (.goto 4, 3) := by decide +kernel
theorem dX6_next_94 : decode cX6_next 94 = .ok (.iconst (-1), 1) := by decide +kernel
theorem dX6_next_95 : decode cX6_next 95 = .ok (.ireturn, 1) := by decide +kernel
theorem dX6_next_96 : decode cX6_next 96 = .ok (.iload_n 1, 1) := by decide +kernel
theorem dX6_next_97 : decode cX6_next 97 = .ok (.invokestatic 41, 3) := by decide +kernel
theorem dX6_next_100 : decode cX6_next 100 = .ok (.ifCond .eq 7, 3) := by decide +kernel
theorem dX6_next_103 : decode cX6_next 103 = .ok (.iconst 4, 1) := by decide +kernel
theorem dX6_next_104 : decode cX6_next 104 = .ok (.goto 7, 3) := by decide +kernel
theorem dX6_next_107 : decode cX6_next 107 = .ok (.iload_n 1, 1) := by decide +kernel
theorem dX6_next_108 : decode cX6_next 108 = .ok (.invokestatic 45, 3) := by decide +kernel
theorem dX6_next_111 : decode cX6_next 111 = .ok (.ireturn, 1) := by decide +kernel
theorem dX6_next_112 : decode cX6_next 112 = .ok (.iload_n 1, 1) := by decide +kernel
theorem dX6_next_113 : decode cX6_next 113 = .ok (.invokestatic 45, 3) := by decide +kernel
theorem dX6_next_116 : decode cX6_next 116 = .ok (.ireturn, 1) := by decide +kernel
theorem dX6_next_117 : decode cX6_next 117 = .ok (.iload_n 1, 1) := by decide +kernel
theorem dX6_next_118 : decode cX6_next 118 = .ok (.bipush 33, 2) := by decide +kernel
theorem dX6_next_120 : decode cX6_next 120 = .ok (.if_icmp .ne 7, 3) := by decide +kernel
theorem dX6_next_123 : decode cX6_next 123 = .ok (.iconst 5, 1) := by decide +kernel
theorem dX6_next_124 : decode cX6_next 124 = .ok (.goto 18, 3) := by decide +kernel
theorem dX6_next_127 : decode cX6_next 127 = .ok (.iload_n 1, 1) := by decide +kernel
theorem dX6_next_128 : decode cX6_next 128 = .ok (.ldc 49, 2) := by decide +kernel
theorem dX6_next_130 : decode cX6_next 130 = .ok (.invokestatic 37, 3) := by decide +kernel
theorem dX6_next_133 : decode cX6_next 133 = .ok (.ifCond .eq 8, 3) := by decide +kernel
theorem dX6_next_136 : decode cX6_next 136 = .ok (.bipush 6, 2) := by decide +kernel
theorem dX6_next_138 : decode cX6_next 138 = .ok (.goto 4, 3) := by decide +kernel
theorem dX6_next_141 : decode cX6_next 141 = .ok (.iconst (-1), 1) := by decide +kernel
theorem dX6_next_142 : decode cX6_next 142 = .ok (.ireturn, 1) := by decide +kernel
theorem dX6_next_143 : decode cX6_next 143 = .ok (.iload_n 1, 1) := by decide +kernel
theorem dX6_next_144 : decode cX6_next 144 = .ok (.ldc 51, 2) := by decide +kernel
theorem dX6_next_146 : decode cX6_next 146 = .ok (.invokestatic 37, 3) := by decide +kernel
theorem dX6_next_149 : decode cX6_next 149 = .ok (.ifCond .eq 8, 3) := by decide +kernel
theorem dX6_next_152 : decode cX6_next 152 = .ok (.bipush 7, 2) := by decide +kernel
theorem dX6_next_154 : decode cX6_next 154 = .ok (.goto 4, 3) := by decide +kernel
theorem dX6_next_157 : decode cX6_next 157 = .ok (.iconst (-1), 1) := by decide +kernel
theorem dX6_next_158 : decode cX6_next 158 = .ok (.ireturn, 1) := by decide +kernel
theorem dX6_next_159 : decode cX6_next 159 = .ok (.iload_n 1, 1) := by decide +kernel
theorem dX6_next_160 : decode cX6_next 160 = .ok (.invokestatic 41, 3) := by decide +kernel
theorem dX6_next_163 : decode cX6_next 163 = .ok (.ifCond .eq 8, 3) := by decide +kernel
theorem dX6_next_166 : decode cX6_next 166 = .ok (.bipush 8, 2) := by decide +kernel
theorem dX6_next_168 : decode cX6_next 168 = .ok (.goto 4, 3) := by decide +kernel
theorem dX6_next_171 : decode cX6_next 171 = .ok (.iconst (-1), 1) := by decide +kernel
theorem dX6_next_172 : decode cX6_next 172 = .ok (.ireturn, 1) := by decide +kernel
theorem dX6_next_173 : decode cX6_next 173 = .ok (.iload_n 1, 1) := by decide +kernel
theorem dX6_next_174 : decode cX6_next 174 = .ok (.invokestatic 41, 3) := by decide +kernel
theorem dX6_next_177 : decode cX6_next 177 = .ok (.ifCond .eq 8, 3) := by decide +kernel
theorem dX6_next_180 : decode cX6_next 180 = .ok (.bipush 9, 2) := by decide +kernel
theorem dX6_next_182 : decode cX6_next 182 = .ok (.goto 7, 3) := by decide +kernel
theorem dX6_next_185 : decode cX6_next 185 = .ok (.iload_n 1, 1) := by decide +kernel
theorem dX6_next_186 : decode cX6_next 186 = .ok (.invokestatic 53, 3) := by decide +kernel
theorem dX6_next_189 : decode cX6_next 189 = .ok (.ireturn, 1) := by decide +kernel
theorem dX6_next_190 : decode cX6_next 190 = .ok (.iload_n 1, 1) := by decide +kernel
theorem dX6_next_191 : decode cX6_next 191 = .ok (.invokestatic 53, 3) := by decide +kernel
theorem dX6_next_194 : decode cX6_next 194 = .ok (.ireturn, 1) := by decide +kernel
theorem dX6_next_195 : decode cX6_next 195 = .ok (.iconst (-1), 1) := by decide +kernel
theorem dX6_next_196 : decode cX6_next 196 = .ok (.ireturn, 1) := by decide +kernel
theorem dX6_behindNumber_0 : decode cX6_behindNumber 0 = .ok (.iload_n 0, 1) := by decide +kernel
theorem dX6_behindNumber_1 : decode cX6_behindNumber 1 = .ok (.bipush 63, 2) := by decide +kernel
theorem dX6_behindNumber_3 : decode cX6_behindNumber 3 = .ok (.if_icmp .ne 7, 3) := by decide +kernel
theorem dX6_behindNumber_6 : decode cX6_behindNumber 6 = .ok (.iconst 5, 1) := by decide +kernel
theorem dX6_behindNumber_7 : decode cX6_behindNumber 7 = .ok (.goto 4, 3) := by decide +kernel
theorem dX6_behindNumber_10 : decode cX6_behindNumber 10 = .ok (.iconst (-1), 1) := by decide +kernel
theorem dX6_behindNumber_11 : decode cX6_behindNumber 11 = .ok (.ireturn, 1) := by decide +kernel
theorem dX6_behindFactor_0 : decode cX6_behindFactor 0 = .ok (.iload_n 0, 1) := by decide +kernel
theorem dX6_behindFactor_1 : decode cX6_behindFactor 1 = .ok (.bipush 38, 2) := by decide +kernel
theorem dX6_behindFactor_3 : decode cX6_behindFactor 3 = .ok (.if_icmp .eq 9, 3) := by decide +kernel
theorem dX6_behindFactor_6 : decode cX6_behindFactor 6 = .ok (.iload_n 0, 1) := by decide +kernel
theorem dX6_behindFactor_7 : decode cX6_behindFactor 7 = .ok (.bipush 124, 2) := by decide +kernel
theorem dX6_behindFactor_9 : decode cX6_behindFactor 9 = .ok (.if_icmp .ne 7, 3) := by decide +kernel
theorem dX6_behindFactor_12 : decode cX6_behindFactor 12 = .ok (.iconst 5, 1) := by decide +kernel
theorem dX6_behindFactor_13 : decode cX6_behindFactor 13 = .ok (.goto 4, 3) := by decide +kernel
theorem dX6_behindFactor_16 : decode cX6_behindFactor 16 = .ok (.iconst (-1), 1) := by decide +kernel
theorem dX6_behindFactor_17 : decode cX6_behindFactor 17 = .ok (.ireturn, 1) := by decide +kernel
theorem dX6_isOneOf_0 : decode cX6_isOneOf 0 = .ok (.aload_n 1, 1) := by decide +kernel
theorem dX6_isOneOf_1 : decode cX6_isOneOf 1 = .ok (.iload_n 0, 1) := by decide +kernel
theorem dX6_isOneOf_2 : decode cX6_isOneOf 2 = .ok (.i2c, 1) := by decide +kernel
theorem dX6_isOneOf_3 : decode cX6_isOneOf 3 = .ok (.invokevirtual 56, 3) := by decide +kernel
theorem dX6_isOneOf_6 : decode cX6_isOneOf 6 = .ok (.ifCond .lt 7, 3) := by decide +kernel
theorem dX6_isOneOf_9 : decode cX6_isOneOf 9 = .ok (.iconst 1, 1) := by decide +kernel
theorem dX6_isOneOf_10 : decode cX6_isOneOf 10 = .ok (.goto 4, 3) := by decide +kernel
theorem dX6_isOneOf_13 : decode cX6_isOneOf 13 = .ok (.iconst 0, 1) := by decide +kernel
theorem dX6_isOneOf_14 : decode cX6_isOneOf 14 = .ok (.ireturn, 1) := by decide +kernel
theorem dX6_isDigit_0 : decode cX6_isDigit 0 = .ok (.iload_n 0, 1) := by decide +kernel
theorem dX6_isDigit_1 : decode cX6_isDigit 1 = .ok (.bipush 48, 2) := by decide +kernel
theorem dX6_isDigit_3 : decode cX6_isDigit 3 = .ok (.if_icmp .lt 13, 3) := by decide +kernel
theorem dX6_isDigit_6 : decode cX6_isDigit 6 = .ok (.iload_n 0, 1) := by decide +kernel
theorem dX6_isDigit_7 : decode cX6_isDigit 7 = .ok (.bipush 57, 2) := by decide +kernel
theorem dX6_isDigit_9 : decode cX6_isDigit 9 = .ok (.if_icmp .gt 7, 3) := by decide +kernel
theorem dX6_isDigit_12 : decode cX6_isDigit 12 = .ok (.iconst 1, 1) := by decide +kernel
theorem dX6_isDigit_13 : decode cX6_isDigit 13 = .ok (.goto 4, 3) := by decide +kernel
theorem dX6_isDigit_16 : decode cX6_isDigit 16 = .ok (.iconst 0, 1) := by decide +kernel
theorem dX6_isDigit_17 : decode cX6_isDigit 17 = .ok (.ireturn, 1) := by decide +kernel
theorem dX6_told_0 : decode cX6_told 0 = .ok (.iconst 0, 1) := by decide +kernel
theorem dX6_told_1 : decode cX6_told 1 = .ok (.istore_n 3, 1) := by decide +kernel
theorem dX6_told_2 : decode cX6_told 2 = .ok (.iload_n 3, 1) := by decide +kernel
theorem dX6_told_3 : decode cX6_told 3 = .ok (.aload_n 0, 1) := by decide +kernel
theorem dX6_told_4 : decode cX6_told 4 = .ok (.getfield 15, 3) := by decide +kernel
theorem dX6_told_7 : decode cX6_told 7 = .ok (.if_icmp .ge 21, 3) := by decide +kernel
theorem dX6_told_10 : decode cX6_told 10 = .ok (.lload_n 1, 1) := by decide +kernel
theorem dX6_told_11 : decode cX6_told 11 = .ok (.aload_n 0, 1) := by decide +kernel
theorem dX6_told_12 : decode cX6_told 12 = .ok (.getfield 11, 3) := by decide +kernel
theorem dX6_told_15 : decode cX6_told 15 = .ok (.iload_n 3, 1) := by decide +kernel
theorem dX6_told_16 : decode cX6_told 16 = .ok (.iaload, 1) := by decide +kernel
theorem dX6_told_17 : decode cX6_told 17 = .ok (.i2l, 1) := by decide +kernel
theorem dX6_told_18 : decode cX6_told 18 = .ok (.invokestatic 61, 3) := by decide +kernel
theorem dX6_told_21 : decode cX6_told 21 = .ok (.lstore_n 1, 1) := by decide +kernel
theorem dX6_told_22 : decode cX6_told 22 = .ok (.iinc 3 1, 3) := by decide +kernel
theorem dX6_told_25 : decode cX6_told 25 = .ok (.goto (-23), 3) := by decide +kernel
theorem dX6_told_28 : decode cX6_told 28 = .ok (.lload_n 1, 1) := by decide +kernel
theorem dX6_told_29 : decode cX6_told 29 = .ok (.lreturn, 1) := by decide +kernel
theorem dX7_init_0 : decode cX7_init 0 = .ok (.aload_n 0, 1) := by decide +kernel
theorem dX7_init_1 : decode cX7_init 1 = .ok (.invokespecial 3, 3) := by decide +kernel
theorem dX7_init_4 : decode cX7_init 4 = .ok (.aload_n 0, 1) := by decide +kernel
theorem dX7_init_5 : decode cX7_init 5 = .ok (.sipush 128, 3) := by decide +kernel
theorem dX7_init_8 : decode cX7_init 8 = .ok (.newarray .int, 2) := by decide +kernel
theorem dX7_init_10 : decode cX7_init 10 = .ok (.putfield 9, 3) := by decide +kernel
theorem dX7_init_13 : decode cX7_init 13 = .ok (.aload_n 0, 1) := by decide +kernel
theorem dX7_init_14 : decode cX7_init 14 = .ok (.aload_n 1, 1) := by decide +kernel
theorem dX7_init_15 : decode cX7_init 15 = .ok (.putfield 15, 3) := by decide +kernel
theorem dX7_init_18 : decode cX7_init 18 = .ok (.return_, 1) := by decide +kernel
theorem dX7_seek_0 : decode cX7_seek 0 = .ok (.aload_n 0, 1) := by decide +kernel
theorem dX7_seek_1 : decode cX7_seek 1 = .ok (.getfield 9, 3) := by decide +kernel
theorem dX7_seek_4 : decode cX7_seek 4 = .ok (.iconst 0, 1) := by decide +kernel
theorem dX7_seek_5 : decode cX7_seek 5 = .ok (.invokestatic 19, 3) := by decide +kernel
theorem dX7_seek_8 : decode cX7_seek 8 = .ok (.iconst 0, 1) := by decide +kernel
theorem dX7_seek_9 : decode cX7_seek 9 = .ok (.istore 4, 2) := by decide +kernel
theorem dX7_seek_11 : decode cX7_seek 11 = .ok (.iconst 0, 1) := by decide +kernel
theorem dX7_seek_12 : decode cX7_seek 12 = .ok (.istore 5, 2) := by decide +kernel
theorem dX7_seek_14 : decode cX7_seek 14 = .ok (.iload 5, 2) := by decide +kernel
theorem dX7_seek_16 : decode cX7_seek 16 = .ok (.aload_n 0, 1) := by decide +kernel
theorem dX7_seek_17 : decode cX7_seek 17 = .ok (.getfield 15, 3) := by decide +kernel
theorem dX7_seek_20 : decode cX7_seek 20 = .ok (.invokevirtual 25, 3) := by decide +kernel
theorem dX7_seek_23 : decode cX7_seek 23 = .ok (.if_icmp .ge 66, 3) := by decide +kernel
theorem dX7_seek_26 : decode cX7_seek 26 = .ok (.aload_n 0, 1) := by decide +kernel
theorem dX7_seek_27 : decode cX7_seek 27 = .ok (.getfield 15, 3) := by decide +kernel
theorem dX7_seek_30 : decode cX7_seek 30 = .ok (.iload 5, 2) := by decide +kernel
theorem dX7_seek_32 : decode cX7_seek 32 = .ok (.invokevirtual 31, 3) := by decide +kernel
theorem dX7_seek_35 : decode cX7_seek 35 = .ok (.ifCond .eq 48, 3) := by decide +kernel
theorem dX7_seek_38 : decode cX7_seek 38 = .ok (.iload_n 1, 1) := by decide +kernel
theorem dX7_seek_39 : decode cX7_seek 39 = .ok (.iconst (-1), 1) := by decide +kernel
theorem dX7_seek_40 : decode cX7_seek 40 = .ok (.if_icmp .eq 16, 3) := by decide +kernel
theorem dX7_seek_43 : decode cX7_seek 43 = .ok (.aload_n 0, 1) := by decide +kernel
theorem dX7_seek_44 : decode cX7_seek 44 = .ok (.getfield 15, 3) := by decide +kernel
theorem dX7_seek_47 : decode cX7_seek 47 = .ok (.iload 5, 2) := by decide +kernel
theorem dX7_seek_49 : decode cX7_seek 49 = .ok (.invokevirtual 35, 3) := by decide +kernel
theorem dX7_seek_52 : decode cX7_seek 52 = .ok (.iload_n 1, 1) := by decide +kernel
theorem dX7_seek_53 : decode cX7_seek 53 = .ok (.if_icmp .ne 30, 3) := by decide +kernel
theorem dX7_seek_56 : decode cX7_seek 56 = .ok (.iconst 1, 1) := by decide +kernel
theorem dX7_seek_57 : decode cX7_seek 57 = .ok (.istore 4, 2) := by decide +kernel
theorem dX7_seek_59 : decode cX7_seek 59 = .ok (.aload_n 0, 1) := by decide +kernel
theorem dX7_seek_60 : decode cX7_seek 60 = .ok (.iload 5, 2) := by decide +kernel
theorem dX7_seek_62 : decode cX7_seek 62 = .ok (.aload_n 0, 1) := by decide +kernel
theorem dX7_seek_63 : decode cX7_seek 63 = .ok (.getfield 15, 3) := by decide +kernel
theorem dX7_seek_66 : decode cX7_seek 66 = .ok (.iload 5, 2) := by decide +kernel
theorem dX7_seek_68 : decode cX7_seek 68 = .ok (.invokevirtual 35, 3) := by decide +kernel
theorem dX7_seek_71 : decode cX7_seek 71 = .ok (.iload_n 2, 1) := by decide +kernel
theorem dX7_seek_72 : decode cX7_seek 72 = .ok (.if_icmp .ne 7, 3) := by decide +kernel
theorem dX7_seek_75 : decode cX7_seek 75 = .ok (.iload_n 3, 1) := by decide +kernel
theorem dX7_seek_76 : decode cX7_seek 76 = .ok (.goto 4, 3) := by decide +kernel
theorem dX7_seek_79 : decode cX7_seek 79 = .ok (.iconst 0, 1) := by decide +kernel
theorem dX7_seek_80 : decode cX7_seek 80 = .ok (.invokevirtual 39, 3) := by decide +kernel
theorem dX7_seek_83 : decode cX7_seek 83 = .ok (.iinc 5 1, 3) := by decide +kernel
theorem dX7_seek_86 : decode cX7_seek 86 = .ok (.goto (-72), 3) := by decide +kernel
theorem dX7_seek_89 : decode cX7_seek 89 = .ok (.aload_n 0, 1) := by decide +kernel
theorem dX7_seek_90 : decode cX7_seek 90 = .ok (.iconst (-1), 1) := by decide +kernel
theorem dX7_seek_91 : decode cX7_seek 91 = .ok (.putfield 43, 3) := by decide +kernel
theorem dX7_seek_94 : decode cX7_seek 94 = .ok (.aload_n 0, 1) := by decide +kernel
theorem dX7_seek_95 : decode cX7_seek 95 = .ok (.iconst 0, 1) := by decide +kernel
theorem dX7_seek_96 : decode cX7_seek 96 = .ok (.putfield 47, 3) := by decide +kernel
theorem dX7_seek_99 : decode cX7_seek 99 = .ok (.aload_n 0, 1) := by decide +kernel
theorem dX7_seek_100 : decode cX7_seek 100 = .ok (.iconst 0, 1) := by decide +kernel
theorem dX7_seek_101 : decode cX7_seek 101 = .ok (.putfield 50, 3) := by decide +kernel
theorem dX7_seek_104 : decode cX7_seek 104 = .ok (.iconst 0, 1) := by decide +kernel
theorem dX7_seek_105 : decode cX7_seek 105 = .ok (.istore 5, 2) := by decide +kernel
theorem dX7_seek_107 : decode cX7_seek 107 = .ok (.iload 4, 2) := by decide +kernel
theorem dX7_seek_109 : decode cX7_seek 109 = .ok (.ifCond .eq 23, 3) := by decide +kernel
theorem dX7_seek_112 : decode cX7_seek 112 = .ok (.iload 5, 2) := by decide +kernel
theorem dX7_seek_114 : decode cX7_seek 114 = .ok (.sipush 128, 3) := by decide +kernel
theorem dX7_seek_117 : decode cX7_seek 117 = .ok (.if_icmp .ge 15, 3) := by decide +kernel
theorem dX7_seek_120 : decode cX7_seek 120 = .ok (.aload_n 0, 1) := by decide +kernel
theorem dX7_seek_121 : decode cX7_seek 121 = .ok (.iload 5, 2) := by decide +kernel
theorem dX7_seek_123 : decode cX7_seek 123 = .ok (.invokevirtual 53, 3) := by decide +kernel
theorem dX7_seek_126 : decode cX7_seek 126 = .ok (.iinc 5 1, 3) := by decide +kernel
theorem dX7_seek_129 : decode cX7_seek 129 = .ok (.goto (-22), 3) := by decide +kernel
theorem dX7_seek_132 : decode cX7_seek 132 = .ok (.return_, 1) := by decide +kernel
theorem dX7_ask_0 : decode cX7_ask 0 = .ok (.aload_n 0, 1) := by decide +kernel
theorem dX7_ask_1 : decode cX7_ask 1 = .ok (.getfield 15, 3) := by decide +kernel
theorem dX7_ask_4 : decode cX7_ask 4 = .ok (.iload_n 1, 1) := by decide +kernel
theorem dX7_ask_5 : decode cX7_ask 5 = .ok (.invokevirtual 57, 3) := by decide +kernel
theorem dX7_ask_8 : decode cX7_ask 8 = .ok (.istore_n 3, 1) := by decide +kernel
theorem dX7_ask_9 : decode cX7_ask 9 = .ok (.iload_n 3, 1) := by decide +kernel
theorem dX7_ask_10 : decode cX7_ask 10 = .ok (.bipush 16, 2) := by decide +kernel
theorem dX7_ask_12 : decode cX7_ask 12 = .ok (.idiv, 1) := by decide +kernel
theorem dX7_ask_13 : decode cX7_ask 13 = .ok (.bipush 16, 2) := by decide +kernel
theorem dX7_ask_15 : decode cX7_ask 15 = .ok (.imul, 1) := by decide +kernel
theorem dX7_ask_16 : decode cX7_ask 16 = .ok (.iload_n 3, 1) := by decide +kernel
theorem dX7_ask_17 : decode cX7_ask 17 = .ok (.bipush 16, 2) := by decide +kernel
theorem dX7_ask_19 : decode cX7_ask 19 = .ok (.irem, 1) := by decide +kernel
theorem dX7_ask_20 : decode cX7_ask 20 = .ok (.iload_n 2, 1) := by decide +kernel
theorem dX7_ask_21 : decode cX7_ask 21 = .ok (.invokestatic 60, 3) := by decide +kernel
theorem dX7_ask_24 : decode cX7_ask 24 = .ok (.iadd, 1) := by decide +kernel
theorem dX7_ask_25 : decode cX7_ask 25 = .ok (.istore 4, 2) := by decide +kernel
theorem dX7_ask_27 : decode cX7_ask 27 = .ok (.iconst 0, 1) := by decide +kernel
theorem dX7_ask_28 : decode cX7_ask 28 = .ok (.istore 5, 2) := by decide +kernel
theorem dX7_ask_30 : decode cX7_ask 30 = .ok (.iload 5, 2) := by decide +kernel
theorem dX7_ask_32 : decode cX7_ask 32 = .ok (.sipush 128, 3) := by decide +kernel
theorem dX7_ask_35 : decode cX7_ask 35 = .ok (.if_icmp .ge 38, 3) := by decide +kernel
theorem dX7_ask_38 : decode cX7_ask 38 = .ok (.iload 4, 2) := by decide +kernel
theorem dX7_ask_40 : decode cX7_ask 40 = .ok (.iload 5, 2) := by decide +kernel
theorem dX7_ask_42 : decode cX7_ask 42 = .ok (.invokestatic 64, 3) := by decide +kernel
theorem dX7_ask_45 : decode cX7_ask 45 = .ok (.aload_n 0, 1) := by decide +kernel
theorem dX7_ask_46 : decode cX7_ask 46 = .ok (.getfield 15, 3) := by decide +kernel
theorem dX7_ask_49 : decode cX7_ask 49 = .ok (.iload_n 1, 1) := by decide +kernel
theorem dX7_ask_50 : decode cX7_ask 50 = .ok (.invokevirtual 67, 3) := by decide +kernel
theorem dX7_ask_53 : decode cX7_ask 53 = .ok (.if_icmp .ne 14, 3) := by decide +kernel
theorem dX7_ask_56 : decode cX7_ask 56 = .ok (.aload_n 0, 1) := by decide +kernel
theorem dX7_ask_57 : decode cX7_ask 57 = .ok (.getfield 9, 3) := by decide +kernel
theorem dX7_ask_60 : decode cX7_ask 60 = .ok (.iload 5, 2) := by decide +kernel
theorem dX7_ask_62 : decode cX7_ask 62 = .ok (.dup2, 1) := by decide +kernel
theorem dX7_ask_63 : decode cX7_ask 63 = .ok (.iaload, 1) := by decide +kernel
theorem dX7_ask_64 : decode cX7_ask 64 = .ok (.iconst 1, 1) := by decide +kernel
theorem dX7_ask_65 : decode cX7_ask 65 = .ok (.iadd, 1) := by decide +kernel
theorem dX7_ask_66 : decode cX7_ask 66 = .ok (.iastore, 1) := by decide +kernel
theorem dX7_ask_67 : decode cX7_ask 67 = .ok (.iinc 5 1, 3) := by decide +kernel
theorem dX7_ask_70 : decode cX7_ask 70 = .ok (.goto (-40), 3) := by decide +kernel
theorem dX7_ask_73 : decode cX7_ask 73 = .ok (.return_, 1) := by decide +kernel
theorem dX7_take_0 : decode cX7_take 0 = .ok (.aload_n 0, 1) := by decide +kernel
theorem dX7_take_1 : decode cX7_take 1 = .ok (.getfield 43, 3) := by decide +kernel
theorem dX7_take_4 : decode cX7_take 4 = .ok (.iconst (-1), 1) := by decide +kernel
theorem dX7_take_5 : decode cX7_take 5 = .ok (.if_icmp .eq 16, 3) := by decide +kernel
theorem dX7_take_8 : decode cX7_take 8 = .ok (.aload_n 0, 1) := by decide +kernel
theorem dX7_take_9 : decode cX7_take 9 = .ok (.getfield 9, 3) := by decide +kernel
theorem dX7_take_12 : decode cX7_take 12 = .ok (.iload_n 1, 1) := by decide +kernel
theorem dX7_take_13 : decode cX7_take 13 = .ok (.iaload, 1) := by decide +kernel
theorem dX7_take_14 : decode cX7_take 14 = .ok (.aload_n 0, 1) := by decide +kernel
theorem dX7_take_15 : decode cX7_take 15 = .ok (.getfield 47, 3) := by decide +kernel
theorem dX7_take_18 : decode cX7_take 18 = .ok (.if_icmp .le 23, 3) := by decide +kernel
theorem dX7_take_21 : decode cX7_take 21 = .ok (.aload_n 0, 1) := by decide +kernel
theorem dX7_take_22 : decode cX7_take 22 = .ok (.iload_n 1, 1) := by decide +kernel
theorem dX7_take_23 : decode cX7_take 23 = .ok (.putfield 43, 3) := by decide +kernel
theorem dX7_take_26 : decode cX7_take 26 = .ok (.aload_n 0, 1) := by decide +kernel
theorem dX7_take_27 : decode cX7_take 27 = .ok (.aload_n 0, 1) := by decide +kernel
theorem dX7_take_28 : decode cX7_take 28 = .ok (.getfield 9, 3) := by decide +kernel
theorem dX7_take_31 : decode cX7_take 31 = .ok (.iload_n 1, 1) := by decide +kernel
theorem dX7_take_32 : decode cX7_take 32 = .ok (.iaload, 1) := by decide +kernel
theorem dX7_take_33 : decode cX7_take 33 = .ok (.putfield 47, 3) := by decide +kernel
theorem dX7_take_36 : decode cX7_take 36 = .ok (.aload_n 0, 1) := by decide +kernel
theorem dX7_take_37 : decode cX7_take 37 = .ok (.iconst 0, 1) := by decide +kernel
theorem dX7_take_38 : decode cX7_take 38 = .ok (.putfield 50, 3) := by decide +kernel
theorem dX7_take_41 : decode cX7_take 41 = .ok (.aload_n 0, 1) := by decide +kernel
theorem dX7_take_42 : decode cX7_take 42 = .ok (.getfield 9, 3) := by decide +kernel
theorem dX7_take_45 : decode cX7_take 45 = .ok (.iload_n 1, 1) := by decide +kernel
theorem dX7_take_46 : decode cX7_take 46 = .ok (.iaload, 1) := by decide +kernel
theorem dX7_take_47 : decode cX7_take 47 = .ok (.aload_n 0, 1) := by decide +kernel
theorem dX7_take_48 : decode cX7_take 48 = .ok (.getfield 47, 3) := by decide +kernel
theorem dX7_take_51 : decode cX7_take 51 = .ok (.if_icmp .ne 13, 3) := by decide +kernel
theorem dX7_take_54 : decode cX7_take 54 = .ok (.aload_n 0, 1) := by decide +kernel
theorem dX7_take_55 : decode cX7_take 55 = .ok (.dup, 1) := by decide +kernel
theorem dX7_take_56 : decode cX7_take 56 = .ok (.getfield 50, 3) := by decide +kernel
theorem dX7_take_59 : decode cX7_take 59 = .ok (.iconst 1, 1) := by decide +kernel
theorem dX7_take_60 : decode cX7_take 60 = .ok (.iadd, 1) := by decide +kernel
theorem dX7_take_61 : decode cX7_take 61 = .ok (.putfield 50, 3) := by decide +kernel
theorem dX7_take_64 : decode cX7_take 64 = .ok (.return_, 1) := by decide +kernel
theorem dX8_init_0 : decode cX8_init 0 = .ok (.aload_n 0, 1) := by decide +kernel
theorem dX8_init_1 : decode cX8_init 1 = .ok (.invokespecial 3, 3) := by decide +kernel
theorem dX8_init_4 : decode cX8_init 4 = .ok (.aload_n 0, 1) := by decide +kernel
theorem dX8_init_5 : decode cX8_init 5 = .ok (.bipush 36, 2) := by decide +kernel
theorem dX8_init_7 : decode cX8_init 7 = .ok (.newarray .int, 2) := by decide +kernel
theorem dX8_init_9 : decode cX8_init 9 = .ok (.putfield 9, 3) := by decide +kernel
theorem dX8_init_12 : decode cX8_init 12 = .ok (.aload_n 0, 1) := by decide +kernel
theorem dX8_init_13 : decode cX8_init 13 = .ok (.bipush 6, 2) := by decide +kernel
theorem dX8_init_15 : decode cX8_init 15 = .ok (.newarray .int, 2) := by decide +kernel
theorem dX8_init_17 : decode cX8_init 17 = .ok (.putfield 15, 3) := by decide +kernel
theorem dX8_init_20 : decode cX8_init 20 = .ok (.aload_n 0, 1) := by decide +kernel
theorem dX8_init_21 : decode cX8_init 21 = .ok (.aload_n 1, 1) := by decide +kernel
theorem dX8_init_22 : decode cX8_init 22 = .ok (.putfield 18, 3) := by decide +kernel
theorem dX8_init_25 : decode cX8_init 25 = .ok (.aload_n 0, 1) := by decide +kernel
theorem dX8_init_26 : decode cX8_init 26 = .ok (.aload_n 2, 1) := by decide +kernel
theorem dX8_init_27 : decode cX8_init 27 = .ok (.putfield 22, 3) := by decide +kernel
theorem dX8_init_30 : decode cX8_init 30 = .ok (.return_, 1) := by decide +kernel
theorem dX8_solve_0 : decode cX8_solve 0 = .ok (.aload_n 0, 1) := by decide +kernel
theorem dX8_solve_1 : decode cX8_solve 1 = .ok (.aload_n 1, 1) := by decide +kernel
theorem dX8_solve_2 : decode cX8_solve 2 = .ok (.iload_n 2, 1) := by decide +kernel
theorem dX8_solve_3 : decode cX8_solve 3 = .ok (.invokevirtual 26, 3) := by decide +kernel
theorem dX8_solve_6 : decode cX8_solve 6 = .ok (.aload_n 0, 1) := by decide +kernel
theorem dX8_solve_7 : decode cX8_solve 7 = .ok (.getfield 22, 3) := by decide +kernel
theorem dX8_solve_10 : decode cX8_solve 10 = .ok (.iload_n 2, 1) := by decide +kernel
theorem dX8_solve_11 : decode cX8_solve 11 = .ok (.invokevirtual 30, 3) := by decide +kernel
theorem dX8_solve_14 : decode cX8_solve 14 = .ok (.istore_n 3, 1) := by decide +kernel
theorem dX8_solve_15 : decode cX8_solve 15 = .ok (.aload_n 0, 1) := by decide +kernel
theorem dX8_solve_16 : decode cX8_solve 16 = .ok (.iconst (-1), 1) := by decide +kernel
theorem dX8_solve_17 : decode cX8_solve 17 = .ok (.putfield 36, 3) := by decide +kernel
theorem dX8_solve_20 : decode cX8_solve 20 = .ok (.aload_n 0, 1) := by decide +kernel
theorem dX8_solve_21 : decode cX8_solve 21 = .ok (.iconst (-1), 1) := by decide +kernel
theorem dX8_solve_22 : decode cX8_solve 22 = .ok (.putfield 40, 3) := by decide +kernel
theorem dX8_solve_25 : decode cX8_solve 25 = .ok (.iconst 0, 1) := by decide +kernel
theorem dX8_solve_26 : decode cX8_solve 26 = .ok (.istore 4, 2) := by decide +kernel
theorem dX8_solve_28 : decode cX8_solve 28 = .ok (.iload 4, 2) := by decide +kernel
theorem dX8_solve_30 : decode cX8_solve 30 = .ok (.bipush 64, 2) := by decide +kernel
theorem dX8_solve_32 : decode cX8_solve 32 = .ok (.if_icmp .ge 30, 3) := by decide +kernel
theorem dX8_solve_35 : decode cX8_solve 35 = .ok (.iload 4, 2) := by decide +kernel
theorem dX8_solve_37 : decode cX8_solve 37 = .ok (.iload_n 3, 1) := by decide +kernel
theorem dX8_solve_38 : decode cX8_solve 38 = .ok (.iand, 1) := by decide +kernel
theorem dX8_solve_39 : decode cX8_solve 39 = .ok (.ifCond .ne 17, 3) := by decide +kernel
theorem dX8_solve_42 : decode cX8_solve 42 = .ok (.aload_n 0, 1) := by decide +kernel
theorem dX8_solve_43 : decode cX8_solve 43 = .ok (.iload 4, 2) := by decide +kernel
theorem dX8_solve_45 : decode cX8_solve 45 = .ok (.aload_n 0, 1) := by decide +kernel
theorem dX8_solve_46 : decode cX8_solve 46 = .ok (.iload 4, 2) := by decide +kernel
theorem dX8_solve_48 : decode cX8_solve 48 = .ok (.iload_n 3, 1) := by decide +kernel
theorem dX8_solve_49 : decode cX8_solve 49 = .ok (.ior, 1) := by decide +kernel
theorem dX8_solve_50 : decode cX8_solve 50 = .ok (.invokevirtual 43, 3) := by decide +kernel
theorem dX8_solve_53 : decode cX8_solve 53 = .ok (.invokevirtual 46, 3) := by decide +kernel
theorem dX8_solve_56 : decode cX8_solve 56 = .ok (.iinc 4 1, 3) := by decide +kernel
theorem dX8_solve_59 : decode cX8_solve 59 = .ok (.goto (-31), 3) := by decide +kernel
theorem dX8_solve_62 : decode cX8_solve 62 = .ok (.aload_n 0, 1) := by decide +kernel
theorem dX8_solve_63 : decode cX8_solve 63 = .ok (.getfield 36, 3) := by decide +kernel
theorem dX8_solve_66 : decode cX8_solve 66 = .ok (.ireturn, 1) := by decide +kernel
theorem dX8_take_0 : decode cX8_take 0 = .ok (.iload_n 2, 1) := by decide +kernel
theorem dX8_take_1 : decode cX8_take 1 = .ok (.iconst (-1), 1) := by decide +kernel
theorem dX8_take_2 : decode cX8_take 2 = .ok (.if_icmp .ne 4, 3) := by decide +kernel
theorem dX8_take_5 : decode cX8_take 5 = .ok (.return_, 1) := by decide +kernel
theorem dX8_take_6 : decode cX8_take 6 = .ok (.iload_n 2, 1) := by decide +kernel
theorem dX8_take_7 : decode cX8_take 7 = .ok (.aload_n 0, 1) := by decide +kernel
theorem dX8_take_8 : decode cX8_take 8 = .ok (.getfield 36, 3) := by decide +kernel
theorem dX8_take_11 : decode cX8_take 11 = .ok (.if_icmp .ne 21, 3) := by decide +kernel
theorem dX8_take_14 : decode cX8_take 14 = .ok (.iload_n 1, 1) := by decide +kernel
theorem dX8_take_15 : decode cX8_take 15 = .ok (.invokestatic 50, 3) := by decide +kernel
theorem dX8_take_18 : decode cX8_take 18 = .ok (.aload_n 0, 1) := by decide +kernel
theorem dX8_take_19 : decode cX8_take 19 = .ok (.getfield 40, 3) := by decide +kernel
theorem dX8_take_22 : decode cX8_take 22 = .ok (.invokestatic 50, 3) := by decide +kernel
theorem dX8_take_25 : decode cX8_take 25 = .ok (.if_icmp .ge 7, 3) := by decide +kernel
theorem dX8_take_28 : decode cX8_take 28 = .ok (.iconst 1, 1) := by decide +kernel
theorem dX8_take_29 : decode cX8_take 29 = .ok (.goto 4, 3) := by decide +kernel
theorem dX8_take_32 : decode cX8_take 32 = .ok (.iconst 0, 1) := by decide +kernel
theorem dX8_take_33 : decode cX8_take 33 = .ok (.istore_n 3, 1) := by decide +kernel
theorem dX8_take_34 : decode cX8_take 34 = .ok (.aload_n 0, 1) := by decide +kernel
theorem dX8_take_35 : decode cX8_take 35 = .ok (.getfield 36, 3) := by decide +kernel
theorem dX8_take_38 : decode cX8_take 38 = .ok (.iconst (-1), 1) := by decide +kernel
theorem dX8_take_39 : decode cX8_take 39 = .ok (.if_icmp .eq 15, 3) := by decide +kernel
theorem dX8_take_42 : decode cX8_take 42 = .ok (.iload_n 2, 1) := by decide +kernel
theorem dX8_take_43 : decode cX8_take 43 = .ok (.aload_n 0, 1) := by decide +kernel
theorem dX8_take_44 : decode cX8_take 44 = .ok (.getfield 36, 3) := by decide +kernel
theorem dX8_take_47 : decode cX8_take 47 = .ok (.if_icmp .lt 7, 3) := by decide +kernel
theorem dX8_take_50 : decode cX8_take 50 = .ok (.iload_n 3, 1) := by decide +kernel
theorem dX8_take_51 : decode cX8_take 51 = .ok (.ifCond .eq 13, 3) := by decide +kernel
theorem dX8_take_54 : decode cX8_take 54 = .ok (.aload_n 0, 1) := by decide +kernel
theorem dX8_take_55 : decode cX8_take 55 = .ok (.iload_n 2, 1) := by decide +kernel
theorem dX8_take_56 : decode cX8_take 56 = .ok (.putfield 36, 3) := by decide +kernel
theorem dX8_take_59 : decode cX8_take 59 = .ok (.aload_n 0, 1) := by decide +kernel
theorem dX8_take_60 : decode cX8_take 60 = .ok (.iload_n 1, 1) := by decide +kernel
theorem dX8_take_61 : decode cX8_take 61 = .ok (.putfield 40, 3) := by decide +kernel
theorem dX8_take_64 : decode cX8_take 64 = .ok (.return_, 1) := by decide +kernel
theorem dX8_ask_0 : decode cX8_ask 0 = .ok (.aload_n 0, 1) := by decide +kernel
theorem dX8_ask_1 : decode cX8_ask 1 = .ok (.getfield 22, 3) := by decide +kernel
theorem dX8_ask_4 : decode cX8_ask 4 = .ok (.iload_n 2, 1) := by decide +kernel
theorem dX8_ask_5 : decode cX8_ask 5 = .ok (.invokevirtual 55, 3) := by decide +kernel
theorem dX8_ask_8 : decode cX8_ask 8 = .ok (.istore_n 3, 1) := by decide +kernel
theorem dX8_ask_9 : decode cX8_ask 9 = .ok (.aload_n 0, 1) := by decide +kernel
theorem dX8_ask_10 : decode cX8_ask 10 = .ok (.getfield 22, 3) := by decide +kernel
theorem dX8_ask_13 : decode cX8_ask 13 = .ok (.iload_n 2, 1) := by decide +kernel
theorem dX8_ask_14 : decode cX8_ask 14 = .ok (.invokevirtual 58, 3) := by decide +kernel
theorem dX8_ask_17 : decode cX8_ask 17 = .ok (.istore 4, 2) := by decide +kernel
theorem dX8_ask_19 : decode cX8_ask 19 = .ok (.iconst 0, 1) := by decide +kernel
theorem dX8_ask_20 : decode cX8_ask 20 = .ok (.istore 5, 2) := by decide +kernel
theorem dX8_ask_22 : decode cX8_ask 22 = .ok (.iload 5, 2) := by decide +kernel
theorem dX8_ask_24 : decode cX8_ask 24 = .ok (.bipush 6, 2) := by decide +kernel
theorem dX8_ask_26 : decode cX8_ask 26 = .ok (.if_icmp .ge 80, 3) := by decide +kernel
theorem dX8_ask_29 : decode cX8_ask 29 = .ok (.iload 5, 2) := by decide +kernel
theorem dX8_ask_31 : decode cX8_ask 31 = .ok (.iconst 1, 1) := by decide +kernel
theorem dX8_ask_32 : decode cX8_ask 32 = .ok (.iadd, 1) := by decide +kernel
theorem dX8_ask_33 : decode cX8_ask 33 = .ok (.istore 6, 2) := by decide +kernel
theorem dX8_ask_35 : decode cX8_ask 35 = .ok (.iload 6, 2) := by decide +kernel
theorem dX8_ask_37 : decode cX8_ask 37 = .ok (.bipush 6, 2) := by decide +kernel
theorem dX8_ask_39 : decode cX8_ask 39 = .ok (.if_icmp .ge 61, 3) := by decide +kernel
theorem dX8_ask_42 : decode cX8_ask 42 = .ok (.aload_n 1, 1) := by decide +kernel
theorem dX8_ask_43 : decode cX8_ask 43 = .ok (.aload_n 0, 1) := by decide +kernel
theorem dX8_ask_44 : decode cX8_ask 44 = .ok (.getfield 18, 3) := by decide +kernel
theorem dX8_ask_47 : decode cX8_ask 47 = .ok (.iload 5, 2) := by decide +kernel
theorem dX8_ask_49 : decode cX8_ask 49 = .ok (.iload 6, 2) := by decide +kernel
theorem dX8_ask_51 : decode cX8_ask 51 = .ok (.invokevirtual 61, 3) := by decide +kernel
theorem dX8_ask_54 : decode cX8_ask 54 = .ok (.iload_n 3, 1) := by decide +kernel
theorem dX8_ask_55 : decode cX8_ask 55 = .ok (.iload 4, 2) := by decide +kernel
theorem dX8_ask_57 : decode cX8_ask 57 = .ok (.invokevirtual 67, 3) := by decide +kernel
theorem dX8_ask_60 : decode cX8_ask 60 = .ok (.aload_n 0, 1) := by decide +kernel
theorem dX8_ask_61 : decode cX8_ask 61 = .ok (.getfield 9, 3) := by decide +kernel
theorem dX8_ask_64 : decode cX8_ask 64 = .ok (.iload 5, 2) := by decide +kernel
theorem dX8_ask_66 : decode cX8_ask 66 = .ok (.bipush 6, 2) := by decide +kernel
theorem dX8_ask_68 : decode cX8_ask 68 = .ok (.imul, 1) := by decide +kernel
theorem dX8_ask_69 : decode cX8_ask 69 = .ok (.iload 6, 2) := by decide +kernel
theorem dX8_ask_71 : decode cX8_ask 71 = .ok (.iadd, 1) := by decide +kernel
theorem dX8_ask_72 : decode cX8_ask 72 = .ok (.aload_n 1, 1) := by decide +kernel
theorem dX8_ask_73 : decode cX8_ask 73 = .ok (.getfield 73, 3) := by decide +kernel
theorem dX8_ask_76 : decode cX8_ask 76 = .ok (.iastore, 1) := by decide +kernel
theorem dX8_ask_77 : decode cX8_ask 77 = .ok (.aload_n 0, 1) := by decide +kernel
theorem dX8_ask_78 : decode cX8_ask 78 = .ok (.getfield 9, 3) := by decide +kernel
theorem dX8_ask_81 : decode cX8_ask 81 = .ok (.iload 6, 2) := by decide +kernel
theorem dX8_ask_83 : decode cX8_ask 83 = .ok (.bipush 6, 2) := by decide +kernel
theorem dX8_ask_85 : decode cX8_ask 85 = .ok (.imul, 1) := by decide +kernel
theorem dX8_ask_86 : decode cX8_ask 86 = .ok (.iload 5, 2) := by decide +kernel
theorem dX8_ask_88 : decode cX8_ask 88 = .ok (.iadd, 1) := by decide +kernel
theorem dX8_ask_89 : decode cX8_ask 89 = .ok (.aload_n 1, 1) := by decide +kernel
theorem dX8_ask_90 : decode cX8_ask 90 = .ok (.getfield 73, 3) := by decide +kernel
theorem dX8_ask_93 : decode cX8_ask 93 = .ok (.iastore, 1) := by decide +kernel
theorem dX8_ask_94 : decode cX8_ask 94 = .ok (.iinc 6 1, 3) := by decide +kernel
theorem dX8_ask_97 : decode cX8_ask 97 = .ok (.goto (-62), 3) := by decide +kernel
theorem dX8_ask_100 : decode cX8_ask 100 = .ok (.iinc 5 1, 3) := by decide +kernel
theorem dX8_ask_103 : decode cX8_ask 103 = .ok (.goto (-81), 3) := by decide +kernel
theorem dX8_ask_106 : decode cX8_ask 106 = .ok (.return_, 1) := by decide +kernel
theorem dX8_priceOfTree_0 : decode cX8_priceOfTree 0 = .ok (.iconst 0, 1) := by decide +kernel
theorem dX8_priceOfTree_1 : decode cX8_priceOfTree 1 = .ok (.istore_n 2, 1) := by decide +kernel
theorem dX8_priceOfTree_2 : decode cX8_priceOfTree 2 = .ok (.iconst 0, 1) := by decide +kernel
theorem dX8_priceOfTree_3 : decode cX8_priceOfTree 3 = .ok (.istore_n 3, 1) := by decide +kernel
theorem dX8_priceOfTree_4 : decode cX8_priceOfTree 4 = .ok (.aload_n 0, 1) := by decide +kernel
theorem dX8_priceOfTree_5 : decode cX8_priceOfTree 5 = .ok (.getfield 15, 3) := by decide +kernel
theorem dX8_priceOfTree_8 : decode cX8_priceOfTree 8 = .ok (.iconst (-1), 1) := by decide +kernel
theorem dX8_priceOfTree_9 : decode cX8_priceOfTree 9 = .ok (.invokestatic 74, 3) := by decide +kernel
theorem dX8_priceOfTree_12 : decode cX8_priceOfTree 12 = .ok (.iload_n 1, 1) := by decide +kernel
theorem dX8_priceOfTree_13 : decode cX8_priceOfTree 13 = .ok (.invokestatic 80, 3) := by decide +kernel
theorem dX8_priceOfTree_16 : decode cX8_priceOfTree 16 = .ok (.istore 4, 2) := by decide +kernel
theorem dX8_priceOfTree_18 : decode cX8_priceOfTree 18 = .ok (.iload_n 1, 1) := by decide +kernel
theorem dX8_priceOfTree_19 : decode cX8_priceOfTree 19 = .ok (.invokestatic 50, 3) := by decide +kernel
theorem dX8_priceOfTree_22 : decode cX8_priceOfTree 22 = .ok (.istore 5, 2) := by decide +kernel
theorem dX8_priceOfTree_24 : decode cX8_priceOfTree 24 = .ok (.iload 5, 2) := by decide +kernel
theorem dX8_priceOfTree_26 : decode cX8_priceOfTree 26 = .ok (.iconst 1, 1) := by decide +kernel
theorem dX8_priceOfTree_27 : decode cX8_priceOfTree 27 = .ok (.if_icmp .le 51, 3) := by decide +kernel
theorem dX8_priceOfTree_30 : decode cX8_priceOfTree 30 = .ok (.iload_n 2, 1) := by decide +kernel
theorem dX8_priceOfTree_31 : decode cX8_priceOfTree 31 = .ok (.iconst 1, 1) := by decide +kernel
theorem dX8_priceOfTree_32 : decode cX8_priceOfTree 32 = .ok (.iload 4, 2) := by decide +kernel
theorem dX8_priceOfTree_34 : decode cX8_priceOfTree 34 = .ok (.ishl, 1) := by decide +kernel
theorem dX8_priceOfTree_35 : decode cX8_priceOfTree 35 = .ok (.ior, 1) := by decide +kernel
theorem dX8_priceOfTree_36 : decode cX8_priceOfTree 36 = .ok (.istore_n 2, 1) := by decide +kernel
theorem dX8_priceOfTree_37 : decode cX8_priceOfTree 37 = .ok (.aload_n 0, 1) := by decide +kernel
theorem dX8_priceOfTree_38 : decode cX8_priceOfTree 38 = .ok (.iload 4, 2) := by decide +kernel
theorem dX8_priceOfTree_40 : decode cX8_priceOfTree 40 = .ok (.invokevirtual 83, 3) := by decide +kernel
theorem dX8_priceOfTree_43 : decode cX8_priceOfTree 43 = .ok (.aload_n 0, 1) := by decide +kernel
theorem dX8_priceOfTree_44 : decode cX8_priceOfTree 44 = .ok (.iload_n 1, 1) := by decide +kernel
theorem dX8_priceOfTree_45 : decode cX8_priceOfTree 45 = .ok (.iload_n 2, 1) := by decide +kernel
theorem dX8_priceOfTree_46 : decode cX8_priceOfTree 46 = .ok (.iconst (-1), 1) := by decide +kernel
theorem dX8_priceOfTree_47 : decode cX8_priceOfTree 47 = .ok (.ixor, 1) := by decide +kernel
theorem dX8_priceOfTree_48 : decode cX8_priceOfTree 48 = .ok (.iand, 1) := by decide +kernel
theorem dX8_priceOfTree_49 : decode cX8_priceOfTree 49 = .ok (.invokevirtual 87, 3) := by decide +kernel
theorem dX8_priceOfTree_52 : decode cX8_priceOfTree 52 = .ok (.istore 4, 2) := by decide +kernel
theorem dX8_priceOfTree_54 : decode cX8_priceOfTree 54 = .ok (.iload 4, 2) := by decide +kernel
theorem dX8_priceOfTree_56 : decode cX8_priceOfTree 56 = .ok (.iconst (-1), 1) := by decide +kernel
theorem dX8_priceOfTree_57 : decode cX8_priceOfTree 57 = .ok (.if_icmp .ne 5, 3) := by decide +kernel
theorem dX8_priceOfTree_60 : decode cX8_priceOfTree 60 = .ok (.iconst (-1), 1) := by decide +kernel
theorem dX8_priceOfTree_61 : decode cX8_priceOfTree 61 = .ok (.ireturn, 1) := by decide +kernel
theorem dX8_priceOfTree_62 : decode cX8_priceOfTree 62 = .ok (.iload_n 3, 1) := by decide +kernel
theorem dX8_priceOfTree_63 : decode cX8_priceOfTree 63 = .ok (.aload_n 0, 1) := by decide +kernel
theorem dX8_priceOfTree_64 : decode cX8_priceOfTree 64 = .ok (.getfield 15, 3) := by decide +kernel
theorem dX8_priceOfTree_67 : decode cX8_priceOfTree 67 = .ok (.iload 4, 2) := by decide +kernel
theorem dX8_priceOfTree_69 : decode cX8_priceOfTree 69 = .ok (.iaload, 1) := by decide +kernel
theorem dX8_priceOfTree_70 : decode cX8_priceOfTree 70 = .ok (.iadd, 1) := by decide +kernel
theorem dX8_priceOfTree_71 : decode cX8_priceOfTree 71 = .ok (.istore_n 3, 1) := by decide +kernel
theorem dX8_priceOfTree_72 : decode cX8_priceOfTree 72 = .ok (.iinc 5 (-1), 3) := by decide +kernel
theorem dX8_priceOfTree_75 : decode cX8_priceOfTree 75 = .ok (.goto (-51), 3) := by decide +kernel
theorem dX8_priceOfTree_78 : decode cX8_priceOfTree 78 = .ok (.iload_n 3, 1) := by decide +kernel
theorem dX8_priceOfTree_79 : decode cX8_priceOfTree 79 = .ok (.ireturn, 1) := by decide +kernel
theorem dX8_reachFrom_0 : decode cX8_reachFrom 0 = .ok (.iconst 0, 1) := by decide +kernel
theorem dX8_reachFrom_1 : decode cX8_reachFrom 1 = .ok (.istore_n 2, 1) := by decide +kernel
theorem dX8_reachFrom_2 : decode cX8_reachFrom 2 = .ok (.iload_n 2, 1) := by decide +kernel
theorem dX8_reachFrom_3 : decode cX8_reachFrom 3 = .ok (.bipush 6, 2) := by decide +kernel
theorem dX8_reachFrom_5 : decode cX8_reachFrom 5 = .ok (.if_icmp .ge 58, 3) := by decide +kernel
theorem dX8_reachFrom_8 : decode cX8_reachFrom 8 = .ok (.aload_n 0, 1) := by decide +kernel
theorem dX8_reachFrom_9 : decode cX8_reachFrom 9 = .ok (.getfield 9, 3) := by decide +kernel
theorem dX8_reachFrom_12 : decode cX8_reachFrom 12 = .ok (.iload_n 1, 1) := by decide +kernel
theorem dX8_reachFrom_13 : decode cX8_reachFrom 13 = .ok (.bipush 6, 2) := by decide +kernel
theorem dX8_reachFrom_15 : decode cX8_reachFrom 15 = .ok (.imul, 1) := by decide +kernel
theorem dX8_reachFrom_16 : decode cX8_reachFrom 16 = .ok (.iload_n 2, 1) := by decide +kernel
theorem dX8_reachFrom_17 : decode cX8_reachFrom 17 = .ok (.iadd, 1) := by decide +kernel
theorem dX8_reachFrom_18 : decode cX8_reachFrom 18 = .ok (.iaload, 1) := by decide +kernel
theorem dX8_reachFrom_19 : decode cX8_reachFrom 19 = .ok (.istore_n 3, 1) := by decide +kernel
theorem dX8_reachFrom_20 : decode cX8_reachFrom 20 = .ok (.iload_n 2, 1) := by decide +kernel
theorem dX8_reachFrom_21 : decode cX8_reachFrom 21 = .ok (.iload_n 1, 1) := by decide +kernel
theorem dX8_reachFrom_22 : decode cX8_reachFrom 22 = .ok (.if_icmp .eq 35, 3) := by decide +kernel
theorem dX8_reachFrom_25 : decode cX8_reachFrom 25 = .ok (.iload_n 3, 1) := by decide +kernel
theorem dX8_reachFrom_26 : decode cX8_reachFrom 26 = .ok (.iconst (-1), 1) := by decide +kernel
theorem dX8_reachFrom_27 : decode cX8_reachFrom 27 = .ok (.if_icmp .eq 30, 3) := by decide +kernel
theorem dX8_reachFrom_30 : decode cX8_reachFrom 30 = .ok (.aload_n 0, 1) := by decide +kernel
theorem dX8_reachFrom_31 : decode cX8_reachFrom 31 = .ok (.getfield 15, 3) := by decide +kernel
theorem dX8_reachFrom_34 : decode cX8_reachFrom 34 = .ok (.iload_n 2, 1) := by decide +kernel
theorem dX8_reachFrom_35 : decode cX8_reachFrom 35 = .ok (.iaload, 1) := by decide +kernel
theorem dX8_reachFrom_36 : decode cX8_reachFrom 36 = .ok (.iconst (-1), 1) := by decide +kernel
theorem dX8_reachFrom_37 : decode cX8_reachFrom 37 = .ok (.if_icmp .eq 13, 3) := by decide +kernel
theorem dX8_reachFrom_40 : decode cX8_reachFrom 40 = .ok (.iload_n 3, 1) := by decide +kernel
theorem dX8_reachFrom_41 : decode cX8_reachFrom 41 = .ok (.aload_n 0, 1) := by decide +kernel
theorem dX8_reachFrom_42 : decode cX8_reachFrom 42 = .ok (.getfield 15, 3) := by decide +kernel
theorem dX8_reachFrom_45 : decode cX8_reachFrom 45 = .ok (.iload_n 2, 1) := by decide +kernel
theorem dX8_reachFrom_46 : decode cX8_reachFrom 46 = .ok (.iaload, 1) := by decide +kernel
theorem dX8_reachFrom_47 : decode cX8_reachFrom 47 = .ok (.if_icmp .ge 10, 3) := by decide +kernel
theorem dX8_reachFrom_50 : decode cX8_reachFrom 50 = .ok (.aload_n 0, 1) := by decide +kernel
theorem dX8_reachFrom_51 : decode cX8_reachFrom 51 = .ok (.getfield 15, 3) := by decide +kernel
theorem dX8_reachFrom_54 : decode cX8_reachFrom 54 = .ok (.iload_n 2, 1) := by decide +kernel
theorem dX8_reachFrom_55 : decode cX8_reachFrom 55 = .ok (.iload_n 3, 1) := by decide +kernel
theorem dX8_reachFrom_56 : decode cX8_reachFrom 56 = .ok (.iastore, 1) := by decide +kernel
theorem dX8_reachFrom_57 : decode cX8_reachFrom 57 = .ok (.iinc 2 1, 3) := by decide +kernel
theorem dX8_reachFrom_60 : decode cX8_reachFrom 60 = .ok (.goto (-58), 3) := by decide +kernel
theorem dX8_reachFrom_63 : decode cX8_reachFrom 63 = .ok (.return_, 1) := by decide +kernel
theorem dX8_nearest_0 : decode cX8_nearest 0 = .ok (.iconst (-1), 1) := by decide +kernel
theorem dX8_nearest_1 : decode cX8_nearest 1 = .ok (.istore_n 2, 1) := by decide +kernel
theorem dX8_nearest_2 : decode cX8_nearest 2 = .ok (.iconst 0, 1) := by decide +kernel
theorem dX8_nearest_3 : decode cX8_nearest 3 = .ok (.istore_n 3, 1) := by decide +kernel
theorem dX8_nearest_4 : decode cX8_nearest 4 = .ok (.iload_n 3, 1) := by decide +kernel
theorem dX8_nearest_5 : decode cX8_nearest 5 = .ok (.bipush 6, 2) := by decide +kernel
theorem dX8_nearest_7 : decode cX8_nearest 7 = .ok (.if_icmp .ge 62, 3) := by decide +kernel
theorem dX8_nearest_10 : decode cX8_nearest 10 = .ok (.iload_n 1, 1) := by decide +kernel
theorem dX8_nearest_11 : decode cX8_nearest 11 = .ok (.iload_n 3, 1) := by decide +kernel
theorem dX8_nearest_12 : decode cX8_nearest 12 = .ok (.ishr, 1) := by decide +kernel
theorem dX8_nearest_13 : decode cX8_nearest 13 = .ok (.iconst 1, 1) := by decide +kernel
theorem dX8_nearest_14 : decode cX8_nearest 14 = .ok (.iand, 1) := by decide +kernel
theorem dX8_nearest_15 : decode cX8_nearest 15 = .ok (.iconst 1, 1) := by decide +kernel
theorem dX8_nearest_16 : decode cX8_nearest 16 = .ok (.if_icmp .ne 17, 3) := by decide +kernel
theorem dX8_nearest_19 : decode cX8_nearest 19 = .ok (.aload_n 0, 1) := by decide +kernel
theorem dX8_nearest_20 : decode cX8_nearest 20 = .ok (.getfield 15, 3) := by decide +kernel
theorem dX8_nearest_23 : decode cX8_nearest 23 = .ok (.iload_n 3, 1) := by decide +kernel
theorem dX8_nearest_24 : decode cX8_nearest 24 = .ok (.iaload, 1) := by decide +kernel
theorem dX8_nearest_25 : decode cX8_nearest 25 = .ok (.iconst (-1), 1) := by decide +kernel
theorem dX8_nearest_26 : decode cX8_nearest 26 = .ok (.if_icmp .eq 7, 3) := by decide +kernel
theorem dX8_nearest_29 : decode cX8_nearest 29 = .ok (.iconst 1, 1) := by decide +kernel
theorem dX8_nearest_30 : decode cX8_nearest 30 = .ok (.goto 4, 3) := by decide +kernel
theorem dX8_nearest_33 : decode cX8_nearest 33 = .ok (.iconst 0, 1) := by decide +kernel
theorem dX8_nearest_34 : decode cX8_nearest 34 = .ok (.istore 4, 2) := by decide +kernel
theorem dX8_nearest_36 : decode cX8_nearest 36 = .ok (.iload 4, 2) := by decide +kernel
theorem dX8_nearest_38 : decode cX8_nearest 38 = .ok (.ifCond .eq 25, 3) := by decide +kernel
theorem dX8_nearest_41 : decode cX8_nearest 41 = .ok (.iload_n 2, 1) := by decide +kernel
theorem dX8_nearest_42 : decode cX8_nearest 42 = .ok (.iconst (-1), 1) := by decide +kernel
theorem dX8_nearest_43 : decode cX8_nearest 43 = .ok (.if_icmp .eq 18, 3) := by decide +kernel
theorem dX8_nearest_46 : decode cX8_nearest 46 = .ok (.aload_n 0, 1) := by decide +kernel
theorem dX8_nearest_47 : decode cX8_nearest 47 = .ok (.getfield 15, 3) := by decide +kernel
theorem dX8_nearest_50 : decode cX8_nearest 50 = .ok (.iload_n 3, 1) := by decide +kernel
theorem dX8_nearest_51 : decode cX8_nearest 51 = .ok (.iaload, 1) := by decide +kernel
theorem dX8_nearest_52 : decode cX8_nearest 52 = .ok (.aload_n 0, 1) := by decide +kernel
theorem dX8_nearest_53 : decode cX8_nearest 53 = .ok (.getfield 15, 3) := by decide +kernel
theorem dX8_nearest_56 : decode cX8_nearest 56 = .ok (.iload_n 2, 1) := by decide +kernel
theorem dX8_nearest_57 : decode cX8_nearest 57 = .ok (.iaload, 1) := by decide +kernel
theorem dX8_nearest_58 : decode cX8_nearest 58 = .ok (.if_icmp .ge 5, 3) := by decide +kernel
theorem dX8_nearest_61 : decode cX8_nearest 61 = .ok (.iload_n 3, 1) := by decide +kernel
theorem dX8_nearest_62 : decode cX8_nearest 62 = .ok (.istore_n 2, 1) := by decide +kernel
theorem dX8_nearest_63 : decode cX8_nearest 63 = .ok (.iinc 3 1, 3) := by decide +kernel
theorem dX8_nearest_66 : decode cX8_nearest 66 = .ok (.goto (-62), 3) := by decide +kernel
theorem dX8_nearest_69 : decode cX8_nearest 69 = .ok (.iload_n 2, 1) := by decide +kernel
theorem dX8_nearest_70 : decode cX8_nearest 70 = .ok (.ireturn, 1) := by decide +kernel
theorem dX8_differenceOf_0 : decode cX8_differenceOf 0 = .ok (.aload_n 0, 1) := by decide +kernel
theorem dX8_differenceOf_1 : decode cX8_differenceOf 1 = .ok (.aload_n 1, 1) := by decide +kernel
theorem dX8_differenceOf_2 : decode cX8_differenceOf 2 = .ok (.iload_n 3, 1) := by decide +kernel
theorem dX8_differenceOf_3 : decode cX8_differenceOf 3 = .ok (.invokevirtual 90, 3) := by decide +kernel
theorem dX8_differenceOf_6 : decode cX8_differenceOf 6 = .ok (.istore 4, 2) := by decide +kernel
theorem dX8_differenceOf_8 : decode cX8_differenceOf 8 = .ok (.aload_n 0, 1) := by decide +kernel
theorem dX8_differenceOf_9 : decode cX8_differenceOf 9 = .ok (.aload_n 2, 1) := by decide +kernel
theorem dX8_differenceOf_10 : decode cX8_differenceOf 10 = .ok (.iload_n 3, 1) := by decide +kernel
theorem dX8_differenceOf_11 : decode cX8_differenceOf 11 = .ok (.invokevirtual 90, 3) := by decide +kernel
theorem dX8_differenceOf_14 : decode cX8_differenceOf 14 = .ok (.istore 5, 2) := by decide +kernel
theorem dX8_differenceOf_16 : decode cX8_differenceOf 16 = .ok (.iload 4, 2) := by decide +kernel
theorem dX8_differenceOf_18 : decode cX8_differenceOf 18 = .ok (.iconst (-1), 1) := by decide +kernel
theorem dX8_differenceOf_19 : decode cX8_differenceOf 19 = .ok (.if_icmp .ne 9, 3) := by decide +kernel
theorem dX8_differenceOf_22 : decode cX8_differenceOf 22 = .ok (.sipush 999, 3) := by decide +kernel
theorem dX8_differenceOf_25 : decode cX8_differenceOf 25 = .ok (.goto 5, 3) := by decide +kernel
theorem dX8_differenceOf_28 : decode cX8_differenceOf 28 = .ok (.iload 4, 2) := by decide +kernel
theorem dX8_differenceOf_30 : decode cX8_differenceOf 30 = .ok (.iload 5, 2) := by decide +kernel
theorem dX8_differenceOf_32 : decode cX8_differenceOf 32 = .ok (.iconst (-1), 1) := by decide +kernel
theorem dX8_differenceOf_33 : decode cX8_differenceOf 33 = .ok (.if_icmp .ne 9, 3) := by decide +kernel
theorem dX8_differenceOf_36 : decode cX8_differenceOf 36 = .ok (.sipush 999, 3) := by decide +kernel
theorem dX8_differenceOf_39 : decode cX8_differenceOf 39 = .ok (.goto 5, 3) := by decide +kernel
theorem dX8_differenceOf_42 : decode cX8_differenceOf 42 = .ok (.iload 5, 2) := by decide +kernel
theorem dX8_differenceOf_44 : decode cX8_differenceOf 44 = .ok (.isub, 1) := by decide +kernel
theorem dX8_differenceOf_45 : decode cX8_differenceOf 45 = .ok (.invokestatic 94, 3) := by decide +kernel
theorem dX8_differenceOf_48 : decode cX8_differenceOf 48 = .ok (.ireturn, 1) := by decide +kernel
theorem dX8_told_0 : decode cX8_told 0 = .ok (.iconst 0, 1) := by decide +kernel
theorem dX8_told_1 : decode cX8_told 1 = .ok (.istore 5, 2) := by decide +kernel
theorem dX8_told_3 : decode cX8_told 3 = .ok (.iload 5, 2) := by decide +kernel
theorem dX8_told_5 : decode cX8_told 5 = .ok (.aload_n 0, 1) := by decide +kernel
theorem dX8_told_6 : decode cX8_told 6 = .ok (.getfield 22, 3) := by decide +kernel
theorem dX8_told_9 : decode cX8_told 9 = .ok (.invokevirtual 99, 3) := by decide +kernel
theorem dX8_told_12 : decode cX8_told 12 = .ok (.if_icmp .ge 66, 3) := by decide +kernel
theorem dX8_told_15 : decode cX8_told 15 = .ok (.lload_n 1, 1) := by decide +kernel
theorem dX8_told_16 : decode cX8_told 16 = .ok (.aload_n 0, 1) := by decide +kernel
theorem dX8_told_17 : decode cX8_told 17 = .ok (.getfield 22, 3) := by decide +kernel
theorem dX8_told_20 : decode cX8_told 20 = .ok (.iload 5, 2) := by decide +kernel
theorem dX8_told_22 : decode cX8_told 22 = .ok (.invokevirtual 30, 3) := by decide +kernel
theorem dX8_told_25 : decode cX8_told 25 = .ok (.i2l, 1) := by decide +kernel
theorem dX8_told_26 : decode cX8_told 26 = .ok (.invokestatic 103, 3) := by decide +kernel
theorem dX8_told_29 : decode cX8_told 29 = .ok (.lstore_n 1, 1) := by decide +kernel
theorem dX8_told_30 : decode cX8_told 30 = .ok (.lload_n 1, 1) := by decide +kernel
theorem dX8_told_31 : decode cX8_told 31 = .ok (.aload_n 0, 1) := by decide +kernel
theorem dX8_told_32 : decode cX8_told 32 = .ok (.getfield 22, 3) := by decide +kernel
theorem dX8_told_35 : decode cX8_told 35 = .ok (.iload 5, 2) := by decide +kernel
theorem dX8_told_37 : decode cX8_told 37 = .ok (.invokevirtual 55, 3) := by decide +kernel
theorem dX8_told_40 : decode cX8_told 40 = .ok (.i2l, 1) := by decide +kernel
theorem dX8_told_41 : decode cX8_told 41 = .ok (.invokestatic 103, 3) := by decide +kernel
theorem dX8_told_44 : decode cX8_told 44 = .ok (.lstore_n 1, 1) := by decide +kernel
theorem dX8_told_45 : decode cX8_told 45 = .ok (.lload_n 1, 1) := by decide +kernel
theorem dX8_told_46 : decode cX8_told 46 = .ok (.aload_n 0, 1) := by decide +kernel
theorem dX8_told_47 : decode cX8_told 47 = .ok (.aload_n 3, 1) := by decide +kernel
theorem dX8_told_48 : decode cX8_told 48 = .ok (.iload 5, 2) := by decide +kernel
theorem dX8_told_50 : decode cX8_told 50 = .ok (.invokevirtual 90, 3) := by decide +kernel
theorem dX8_told_53 : decode cX8_told 53 = .ok (.i2l, 1) := by decide +kernel
theorem dX8_told_54 : decode cX8_told 54 = .ok (.invokestatic 103, 3) := by decide +kernel
theorem dX8_told_57 : decode cX8_told 57 = .ok (.lstore_n 1, 1) := by decide +kernel
theorem dX8_told_58 : decode cX8_told 58 = .ok (.lload_n 1, 1) := by decide +kernel
theorem dX8_told_59 : decode cX8_told 59 = .ok (.aload_n 0, 1) := by decide +kernel
theorem dX8_told_60 : decode cX8_told 60 = .ok (.aload 4, 2) := by decide +kernel
theorem dX8_told_62 : decode cX8_told 62 = .ok (.iload 5, 2) := by decide +kernel
theorem dX8_told_64 : decode cX8_told 64 = .ok (.invokevirtual 90, 3) := by decide +kernel
theorem dX8_told_67 : decode cX8_told 67 = .ok (.i2l, 1) := by decide +kernel
theorem dX8_told_68 : decode cX8_told 68 = .ok (.invokestatic 103, 3) := by decide +kernel
theorem dX8_told_71 : decode cX8_told 71 = .ok (.lstore_n 1, 1) := by decide +kernel
theorem dX8_told_72 : decode cX8_told 72 = .ok (.iinc 5 1, 3) := by decide +kernel
theorem dX8_told_75 : decode cX8_told 75 = .ok (.goto (-72), 3) := by decide +kernel
theorem dX8_told_78 : decode cX8_told 78 = .ok (.lload_n 1, 1) := by decide +kernel
theorem dX8_told_79 : decode cX8_told 79 = .ok (.lreturn, 1) := by decide +kernel
theorem dX9_init_0 : decode cX9_init 0 = .ok (.aload_n 0, 1) := by decide +kernel
theorem dX9_init_1 : decode cX9_init 1 = .ok (.invokespecial 3, 3) := by decide +kernel
theorem dX9_init_4 : decode cX9_init 4 = .ok (.aload_n 0, 1) := by decide +kernel
theorem dX9_init_5 : decode cX9_init 5 = .ok (.bipush 12, 2) := by decide +kernel
theorem dX9_init_7 : decode cX9_init 7 = .ok (.newarray .int, 2) := by decide +kernel
theorem dX9_init_9 : decode cX9_init 9 = .ok (.putfield 11, 3) := by decide +kernel
theorem dX9_init_12 : decode cX9_init 12 = .ok (.aload_n 0, 1) := by decide +kernel
theorem dX9_init_13 : decode cX9_init 13 = .ok (.bipush 12, 2) := by decide +kernel
theorem dX9_init_15 : decode cX9_init 15 = .ok (.newarray .int, 2) := by decide +kernel
theorem dX9_init_17 : decode cX9_init 17 = .ok (.putfield 15, 3) := by decide +kernel
theorem dX9_init_20 : decode cX9_init 20 = .ok (.aload_n 0, 1) := by decide +kernel
theorem dX9_init_21 : decode cX9_init 21 = .ok (.bipush 12, 2) := by decide +kernel
theorem dX9_init_23 : decode cX9_init 23 = .ok (.newarray .int, 2) := by decide +kernel
theorem dX9_init_25 : decode cX9_init 25 = .ok (.putfield 18, 3) := by decide +kernel
theorem dX9_init_28 : decode cX9_init 28 = .ok (.aload_n 0, 1) := by decide +kernel
theorem dX9_init_29 : decode cX9_init 29 = .ok (.bipush 12, 2) := by decide +kernel
theorem dX9_init_31 : decode cX9_init 31 = .ok (.newarray .boolean, 2) := by decide +kernel
theorem dX9_init_33 : decode cX9_init 33 = .ok (.putfield 21, 3) := by decide +kernel
theorem dX9_init_36 : decode cX9_init 36 = .ok (.aload_n 0, 1) := by decide +kernel
theorem dX9_init_37 : decode cX9_init 37 = .ok (.bipush 12, 2) := by decide +kernel
theorem dX9_init_39 : decode cX9_init 39 = .ok (.newarray .int, 2) := by decide +kernel
theorem dX9_init_41 : decode cX9_init 41 = .ok (.putfield 25, 3) := by decide +kernel
theorem dX9_init_44 : decode cX9_init 44 = .ok (.aload_n 0, 1) := by decide +kernel
theorem dX9_init_45 : decode cX9_init 45 = .ok (.iconst 2, 1) := by decide +kernel
theorem dX9_init_46 : decode cX9_init 46 = .ok (.putfield 28, 3) := by decide +kernel
theorem dX9_init_49 : decode cX9_init 49 = .ok (.aload_n 0, 1) := by decide +kernel
theorem dX9_init_50 : decode cX9_init 50 = .ok (.sipush 160, 3) := by decide +kernel
theorem dX9_init_53 : decode cX9_init 53 = .ok (.newarray .int, 2) := by decide +kernel
theorem dX9_init_55 : decode cX9_init 55 = .ok (.putfield 32, 3) := by decide +kernel
theorem dX9_init_58 : decode cX9_init 58 = .ok (.aload_n 0, 1) := by decide +kernel
theorem dX9_init_59 : decode cX9_init 59 = .ok (.sipush 160, 3) := by decide +kernel
theorem dX9_init_62 : decode cX9_init 62 = .ok (.newarray .int, 2) := by decide +kernel
theorem dX9_init_64 : decode cX9_init 64 = .ok (.putfield 35, 3) := by decide +kernel
theorem dX9_init_67 : decode cX9_init 67 = .ok (.aload_n 0, 1) := by decide +kernel
theorem dX9_init_68 : decode cX9_init 68 = .ok (.bipush 10, 2) := by decide +kernel
theorem dX9_init_70 : decode cX9_init 70 = .ok (.newarray .int, 2) := by decide +kernel
theorem dX9_init_72 : decode cX9_init 72 = .ok (.putfield 38, 3) := by decide +kernel
theorem dX9_init_75 : decode cX9_init 75 = .ok (.aload_n 0, 1) := by decide +kernel
theorem dX9_init_76 : decode cX9_init 76 = .ok (.aload_n 1, 1) := by decide +kernel
theorem dX9_init_77 : decode cX9_init 77 = .ok (.putfield 41, 3) := by decide +kernel
theorem dX9_init_80 : decode cX9_init 80 = .ok (.return_, 1) := by decide +kernel
theorem dX9_size_0 : decode cX9_size 0 = .ok (.aload_n 0, 1) := by decide +kernel
theorem dX9_size_1 : decode cX9_size 1 = .ok (.getfield 45, 3) := by decide +kernel
theorem dX9_size_4 : decode cX9_size 4 = .ok (.ireturn, 1) := by decide +kernel
theorem dX9_isFull_0 : decode cX9_isFull 0 = .ok (.aload_n 0, 1) := by decide +kernel
theorem dX9_isFull_1 : decode cX9_isFull 1 = .ok (.getfield 45, 3) := by decide +kernel
theorem dX9_isFull_4 : decode cX9_isFull 4 = .ok (.bipush 12, 2) := by decide +kernel
theorem dX9_isFull_6 : decode cX9_isFull 6 = .ok (.if_icmp .lt 7, 3) := by decide +kernel
theorem dX9_isFull_9 : decode cX9_isFull 9 = .ok (.iconst 1, 1) := by decide +kernel
theorem dX9_isFull_10 : decode cX9_isFull 10 = .ok (.goto 4, 3) := by decide +kernel
theorem dX9_isFull_13 : decode cX9_isFull 13 = .ok (.iconst 0, 1) := by decide +kernel
theorem dX9_isFull_14 : decode cX9_isFull 14 = .ok (.ireturn, 1) := by decide +kernel
theorem dX9_changeSpeed_0 : decode cX9_changeSpeed 0 = .ok (.aload_n 0, 1) := by decide +kernel
theorem dX9_changeSpeed_1 : decode cX9_changeSpeed 1 = .ok (.getfield 28, 3) := by decide +kernel
theorem dX9_changeSpeed_4 : decode cX9_changeSpeed 4 = .ok (.istore_n 2, 1) := by decide +kernel
theorem dX9_changeSpeed_5 : decode cX9_changeSpeed 5 = .ok (.aload_n 0, 1) := by decide +kernel
theorem dX9_changeSpeed_6 : decode cX9_changeSpeed 6 = .ok (.iload_n 1, 1) := by decide +kernel
theorem dX9_changeSpeed_7 : decode cX9_changeSpeed 7 = .ok (.putfield 28, 3) := by decide +kernel
theorem dX9_changeSpeed_10 : decode cX9_changeSpeed 10 = .ok (.iload_n 2, 1) := by decide +kernel
theorem dX9_changeSpeed_11 : decode cX9_changeSpeed 11 = .ok (.ireturn, 1) := by decide +kernel
theorem dX9_add_0 : decode cX9_add 0 = .ok (.aload_n 0, 1) := by decide +kernel
theorem dX9_add_1 : decode cX9_add 1 = .ok (.getfield 11, 3) := by decide +kernel
theorem dX9_add_4 : decode cX9_add 4 = .ok (.aload_n 0, 1) := by decide +kernel
theorem dX9_add_5 : decode cX9_add 5 = .ok (.getfield 45, 3) := by decide +kernel
theorem dX9_add_8 : decode cX9_add 8 = .ok (.iload_n 1, 1) := by decide +kernel
theorem dX9_add_9 : decode cX9_add 9 = .ok (.iastore, 1) := by decide +kernel
theorem dX9_add_10 : decode cX9_add 10 = .ok (.aload_n 0, 1) := by decide +kernel
theorem dX9_add_11 : decode cX9_add 11 = .ok (.getfield 15, 3) := by decide +kernel
theorem dX9_add_14 : decode cX9_add 14 = .ok (.aload_n 0, 1) := by decide +kernel
theorem dX9_add_15 : decode cX9_add 15 = .ok (.getfield 45, 3) := by decide +kernel
theorem dX9_add_18 : decode cX9_add 18 = .ok (.iload_n 2, 1) := by decide +kernel
theorem dX9_add_19 : decode cX9_add 19 = .ok (.iastore, 1) := by decide +kernel
theorem dX9_add_20 : decode cX9_add 20 = .ok (.aload_n 0, 1) := by decide +kernel
theorem dX9_add_21 : decode cX9_add 21 = .ok (.getfield 18, 3) := by decide +kernel
theorem dX9_add_24 : decode cX9_add 24 = .ok (.aload_n 0, 1) := by decide +kernel
theorem dX9_add_25 : decode cX9_add 25 = .ok (.getfield 45, 3) := by decide +kernel
theorem dX9_add_28 : decode cX9_add 28 = .ok (.iload_n 3, 1) := by decide +kernel
theorem dX9_add_29 : decode cX9_add 29 = .ok (.iastore, 1) := by decide +kernel
theorem dX9_add_30 : decode cX9_add 30 = .ok (.aload_n 0, 1) := by decide +kernel
theorem dX9_add_31 : decode cX9_add 31 = .ok (.getfield 21, 3) := by decide +kernel
theorem dX9_add_34 : decode cX9_add 34 = .ok (.aload_n 0, 1) := by decide +kernel
theorem dX9_add_35 : decode cX9_add 35 = .ok (.getfield 45, 3) := by decide +kernel
theorem dX9_add_38 : decode cX9_add 38 = .ok (.iload 4, 2) := by decide +kernel
theorem dX9_add_40 : decode cX9_add 40 = .ok (.bastore, 1) := by decide +kernel
theorem dX9_add_41 : decode cX9_add 41 = .ok (.aload_n 0, 1) := by decide +kernel
theorem dX9_add_42 : decode cX9_add 42 = .ok (.getfield 25, 3) := by decide +kernel
theorem dX9_add_45 : decode cX9_add 45 = .ok (.aload_n 0, 1) := by decide +kernel
theorem dX9_add_46 : decode cX9_add 46 = .ok (.getfield 45, 3) := by decide +kernel
theorem dX9_add_49 : decode cX9_add 49 = .ok (.iload 5, 2) := by decide +kernel
theorem dX9_add_51 : decode cX9_add 51 = .ok (.iastore, 1) := by decide +kernel
theorem dX9_add_52 : decode cX9_add 52 = .ok (.aload_n 0, 1) := by decide +kernel
theorem dX9_add_53 : decode cX9_add 53 = .ok (.dup, 1) := by decide +kernel
theorem dX9_add_54 : decode cX9_add 54 = .ok (.getfield 45, 3) := by decide +kernel
theorem dX9_add_57 : decode cX9_add 57 = .ok (.iconst 1, 1) := by decide +kernel
theorem dX9_add_58 : decode cX9_add 58 = .ok (.iadd, 1) := by decide +kernel
theorem dX9_add_59 : decode cX9_add 59 = .ok (.putfield 45, 3) := by decide +kernel
theorem dX9_add_62 : decode cX9_add 62 = .ok (.aload_n 0, 1) := by decide +kernel
theorem dX9_add_63 : decode cX9_add 63 = .ok (.getfield 45, 3) := by decide +kernel
theorem dX9_add_66 : decode cX9_add 66 = .ok (.iconst 1, 1) := by decide +kernel
theorem dX9_add_67 : decode cX9_add 67 = .ok (.isub, 1) := by decide +kernel
theorem dX9_add_68 : decode cX9_add 68 = .ok (.ireturn, 1) := by decide +kernel
theorem dX9_oweAll_0 : decode cX9_oweAll 0 = .ok (.aload_n 0, 1) := by decide +kernel
theorem dX9_oweAll_1 : decode cX9_oweAll 1 = .ok (.getfield 32, 3) := by decide +kernel
theorem dX9_oweAll_4 : decode cX9_oweAll 4 = .ok (.iconst 0, 1) := by decide +kernel
theorem dX9_oweAll_5 : decode cX9_oweAll 5 = .ok (.invokestatic 48, 3) := by decide +kernel
theorem dX9_oweAll_8 : decode cX9_oweAll 8 = .ok (.iconst 0, 1) := by decide +kernel
theorem dX9_oweAll_9 : decode cX9_oweAll 9 = .ok (.istore_n 2, 1) := by decide +kernel
theorem dX9_oweAll_10 : decode cX9_oweAll 10 = .ok (.iload_n 2, 1) := by decide +kernel
theorem dX9_oweAll_11 : decode cX9_oweAll 11 = .ok (.aload_n 0, 1) := by decide +kernel
theorem dX9_oweAll_12 : decode cX9_oweAll 12 = .ok (.getfield 45, 3) := by decide +kernel
theorem dX9_oweAll_15 : decode cX9_oweAll 15 = .ok (.if_icmp .ge 24, 3) := by decide +kernel
theorem dX9_oweAll_18 : decode cX9_oweAll 18 = .ok (.aload_n 0, 1) := by decide +kernel
theorem dX9_oweAll_19 : decode cX9_oweAll 19 = .ok (.getfield 11, 3) := by decide +kernel
theorem dX9_oweAll_22 : decode cX9_oweAll 22 = .ok (.iload_n 2, 1) := by decide +kernel
theorem dX9_oweAll_23 : decode cX9_oweAll 23 = .ok (.iaload, 1) := by decide +kernel
theorem dX9_oweAll_24 : decode cX9_oweAll 24 = .ok (.iload_n 1, 1) := by decide +kernel
theorem dX9_oweAll_25 : decode cX9_oweAll 25 = .ok (.if_icmp .ne 8, 3) := by decide +kernel
theorem dX9_oweAll_28 : decode cX9_oweAll 28 = .ok (.aload_n 0, 1) := by decide +kernel
theorem dX9_oweAll_29 : decode cX9_oweAll 29 = .ok (.iload_n 2, 1) := by decide +kernel
theorem dX9_oweAll_30 : decode cX9_oweAll 30 = .ok (.invokevirtual 54, 3) := by decide +kernel
theorem dX9_oweAll_33 : decode cX9_oweAll 33 = .ok (.iinc 2 1, 3) := by decide +kernel
theorem dX9_oweAll_36 : decode cX9_oweAll 36 = .ok (.goto (-26), 3) := by decide +kernel
theorem dX9_oweAll_39 : decode cX9_oweAll 39 = .ok (.return_, 1) := by decide +kernel
theorem dX9_owe_0 : decode cX9_owe 0 = .ok (.iconst 0, 1) := by decide +kernel
theorem dX9_owe_1 : decode cX9_owe 1 = .ok (.istore_n 2, 1) := by decide +kernel
theorem dX9_owe_2 : decode cX9_owe 2 = .ok (.iload_n 2, 1) := by decide +kernel
theorem dX9_owe_3 : decode cX9_owe 3 = .ok (.bipush 16, 2) := by decide +kernel
theorem dX9_owe_5 : decode cX9_owe 5 = .ok (.if_icmp .ge 100, 3) := by decide +kernel
theorem dX9_owe_8 : decode cX9_owe 8 = .ok (.aload_n 0, 1) := by decide +kernel
theorem dX9_owe_9 : decode cX9_owe 9 = .ok (.getfield 41, 3) := by decide +kernel
theorem dX9_owe_12 : decode cX9_owe 12 = .ok (.aload_n 0, 1) := by decide +kernel
theorem dX9_owe_13 : decode cX9_owe 13 = .ok (.getfield 15, 3) := by decide +kernel
theorem dX9_owe_16 : decode cX9_owe 16 = .ok (.iload_n 1, 1) := by decide +kernel
theorem dX9_owe_17 : decode cX9_owe 17 = .ok (.iaload, 1) := by decide +kernel
theorem dX9_owe_18 : decode cX9_owe 18 = .ok (.aload_n 0, 1) := by decide +kernel
theorem dX9_owe_19 : decode cX9_owe 19 = .ok (.getfield 11, 3) := by decide +kernel
theorem dX9_owe_22 : decode cX9_owe 22 = .ok (.iload_n 1, 1) := by decide +kernel
theorem dX9_owe_23 : decode cX9_owe 23 = .ok (.iaload, 1) := by decide +kernel
theorem dX9_owe_24 : decode cX9_owe 24 = .ok (.iconst 0, 1) := by decide +kernel
theorem dX9_owe_25 : decode cX9_owe 25 = .ok (.iload_n 2, 1) := by decide +kernel
theorem dX9_owe_26 : decode cX9_owe 26 = .ok (.invokevirtual 58, 3) := by decide +kernel
theorem dX9_owe_29 : decode cX9_owe 29 = .ok (.aload_n 0, 1) := by decide +kernel
theorem dX9_owe_30 : decode cX9_owe 30 = .ok (.getfield 41, 3) := by decide +kernel
theorem dX9_owe_33 : decode cX9_owe 33 = .ok (.getfield 64, 3) := by decide +kernel
theorem dX9_owe_36 : decode cX9_owe 36 = .ok (.ifCond .ne 32, 3) := by decide +kernel
theorem dX9_owe_39 : decode cX9_owe 39 = .ok (.aload_n 0, 1) := by decide +kernel
theorem dX9_owe_40 : decode cX9_owe 40 = .ok (.getfield 41, 3) := by decide +kernel
theorem dX9_owe_43 : decode cX9_owe 43 = .ok (.getfield 67, 3) := by decide +kernel
theorem dX9_owe_46 : decode cX9_owe 46 = .ok (.iconst 1, 1) := by decide +kernel
theorem dX9_owe_47 : decode cX9_owe 47 = .ok (.if_icmp .lt 7, 3) := by decide +kernel
theorem dX9_owe_50 : decode cX9_owe 50 = .ok (.iconst 1, 1) := by decide +kernel
theorem dX9_owe_51 : decode cX9_owe 51 = .ok (.goto 4, 3) := by decide +kernel
theorem dX9_owe_54 : decode cX9_owe 54 = .ok (.iconst 0, 1) := by decide +kernel
theorem dX9_owe_55 : decode cX9_owe 55 = .ok (.aload_n 0, 1) := by decide +kernel
theorem dX9_owe_56 : decode cX9_owe 56 = .ok (.getfield 21, 3) := by decide +kernel
theorem dX9_owe_59 : decode cX9_owe 59 = .ok (.iload_n 1, 1) := by decide +kernel
theorem dX9_owe_60 : decode cX9_owe 60 = .ok (.baload, 1) := by decide +kernel
theorem dX9_owe_61 : decode cX9_owe 61 = .ok (.if_icmp .ne 7, 3) := by decide +kernel
theorem dX9_owe_64 : decode cX9_owe 64 = .ok (.iconst 1, 1) := by decide +kernel
theorem dX9_owe_65 : decode cX9_owe 65 = .ok (.goto 4, 3) := by decide +kernel
theorem dX9_owe_68 : decode cX9_owe 68 = .ok (.iconst 0, 1) := by decide +kernel
theorem dX9_owe_69 : decode cX9_owe 69 = .ok (.istore_n 3, 1) := by decide +kernel
theorem dX9_owe_70 : decode cX9_owe 70 = .ok (.iload_n 3, 1) := by decide +kernel
theorem dX9_owe_71 : decode cX9_owe 71 = .ok (.ifCond .ne 28, 3) := by decide +kernel
theorem dX9_owe_74 : decode cX9_owe 74 = .ok (.aload_n 0, 1) := by decide +kernel
theorem dX9_owe_75 : decode cX9_owe 75 = .ok (.getfield 32, 3) := by decide +kernel
theorem dX9_owe_78 : decode cX9_owe 78 = .ok (.aload_n 0, 1) := by decide +kernel
theorem dX9_owe_79 : decode cX9_owe 79 = .ok (.getfield 18, 3) := by decide +kernel
theorem dX9_owe_82 : decode cX9_owe 82 = .ok (.iload_n 1, 1) := by decide +kernel
theorem dX9_owe_83 : decode cX9_owe 83 = .ok (.iaload, 1) := by decide +kernel
theorem dX9_owe_84 : decode cX9_owe 84 = .ok (.bipush 16, 2) := by decide +kernel
theorem dX9_owe_86 : decode cX9_owe 86 = .ok (.imul, 1) := by decide +kernel
theorem dX9_owe_87 : decode cX9_owe 87 = .ok (.iload_n 2, 1) := by decide +kernel
theorem dX9_owe_88 : decode cX9_owe 88 = .ok (.iadd, 1) := by decide +kernel
theorem dX9_owe_89 : decode cX9_owe 89 = .ok (.dup2, 1) := by decide +kernel
theorem dX9_owe_90 : decode cX9_owe 90 = .ok (.iaload, 1) := by decide +kernel
theorem dX9_owe_91 : decode cX9_owe 91 = .ok (.aload_n 0, 1) := by decide +kernel
theorem dX9_owe_92 : decode cX9_owe 92 = .ok (.getfield 25, 3) := by decide +kernel
theorem dX9_owe_95 : decode cX9_owe 95 = .ok (.iload_n 1, 1) := by decide +kernel
theorem dX9_owe_96 : decode cX9_owe 96 = .ok (.iaload, 1) := by decide +kernel
theorem dX9_owe_97 : decode cX9_owe 97 = .ok (.iadd, 1) := by decide +kernel
theorem dX9_owe_98 : decode cX9_owe 98 = .ok (.iastore, 1) := by decide +kernel
theorem dX9_owe_99 : decode cX9_owe 99 = .ok (.iinc 2 1, 3) := by decide +kernel
theorem dX9_owe_102 : decode cX9_owe 102 = .ok (.goto (-100), 3) := by decide +kernel
theorem dX9_owe_105 : decode cX9_owe 105 = .ok (.return_, 1) := by decide +kernel
theorem dX9_tell_0 : decode cX9_tell 0 = .ok (.aload_n 0, 1) := by decide +kernel
theorem dX9_tell_1 : decode cX9_tell 1 = .ok (.iload_n 1, 1) := by decide +kernel
theorem dX9_tell_2 : decode cX9_tell 2 = .ok (.invokevirtual 70, 3) := by decide +kernel
theorem dX9_tell_5 : decode cX9_tell 5 = .ok (.bipush 9, 2) := by decide +kernel
theorem dX9_tell_7 : decode cX9_tell 7 = .ok (.istore_n 2, 1) := by decide +kernel
theorem dX9_tell_8 : decode cX9_tell 8 = .ok (.iload_n 2, 1) := by decide +kernel
theorem dX9_tell_9 : decode cX9_tell 9 = .ok (.ifCond .lt 72, 3) := by decide +kernel
theorem dX9_tell_12 : decode cX9_tell 12 = .ok (.iconst 0, 1) := by decide +kernel
theorem dX9_tell_13 : decode cX9_tell 13 = .ok (.istore_n 3, 1) := by decide +kernel
theorem dX9_tell_14 : decode cX9_tell 14 = .ok (.iload_n 3, 1) := by decide +kernel
theorem dX9_tell_15 : decode cX9_tell 15 = .ok (.bipush 16, 2) := by decide +kernel
theorem dX9_tell_17 : decode cX9_tell 17 = .ok (.if_icmp .ge 58, 3) := by decide +kernel
theorem dX9_tell_20 : decode cX9_tell 20 = .ok (.iload_n 2, 1) := by decide +kernel
theorem dX9_tell_21 : decode cX9_tell 21 = .ok (.bipush 9, 2) := by decide +kernel
theorem dX9_tell_23 : decode cX9_tell 23 = .ok (.if_icmp .ne 7, 3) := by decide +kernel
theorem dX9_tell_26 : decode cX9_tell 26 = .ok (.iconst 0, 1) := by decide +kernel
theorem dX9_tell_27 : decode cX9_tell 27 = .ok (.goto 15, 3) := by decide +kernel
theorem dX9_tell_30 : decode cX9_tell 30 = .ok (.aload_n 0, 1) := by decide +kernel
theorem dX9_tell_31 : decode cX9_tell 31 = .ok (.iload_n 2, 1) := by decide +kernel
theorem dX9_tell_32 : decode cX9_tell 32 = .ok (.iload_n 3, 1) := by decide +kernel
theorem dX9_tell_33 : decode cX9_tell 33 = .ok (.aload_n 0, 1) := by decide +kernel
theorem dX9_tell_34 : decode cX9_tell 34 = .ok (.iload_n 2, 1) := by decide +kernel
theorem dX9_tell_35 : decode cX9_tell 35 = .ok (.iload_n 3, 1) := by decide +kernel
theorem dX9_tell_36 : decode cX9_tell 36 = .ok (.invokevirtual 73, 3) := by decide +kernel
theorem dX9_tell_39 : decode cX9_tell 39 = .ok (.invokevirtual 77, 3) := by decide +kernel
theorem dX9_tell_42 : decode cX9_tell 42 = .ok (.istore 4, 2) := by decide +kernel
theorem dX9_tell_44 : decode cX9_tell 44 = .ok (.aload_n 0, 1) := by decide +kernel
theorem dX9_tell_45 : decode cX9_tell 45 = .ok (.getfield 35, 3) := by decide +kernel
theorem dX9_tell_48 : decode cX9_tell 48 = .ok (.iload_n 2, 1) := by decide +kernel
theorem dX9_tell_49 : decode cX9_tell 49 = .ok (.bipush 16, 2) := by decide +kernel
theorem dX9_tell_51 : decode cX9_tell 51 = .ok (.imul, 1) := by decide +kernel
theorem dX9_tell_52 : decode cX9_tell 52 = .ok (.iload_n 3, 1) := by decide +kernel
theorem dX9_tell_53 : decode cX9_tell 53 = .ok (.iadd, 1) := by decide +kernel
theorem dX9_tell_54 : decode cX9_tell 54 = .ok (.aload_n 0, 1) := by decide +kernel
theorem dX9_tell_55 : decode cX9_tell 55 = .ok (.getfield 32, 3) := by decide +kernel
theorem dX9_tell_58 : decode cX9_tell 58 = .ok (.iload_n 2, 1) := by decide +kernel
theorem dX9_tell_59 : decode cX9_tell 59 = .ok (.bipush 16, 2) := by decide +kernel
theorem dX9_tell_61 : decode cX9_tell 61 = .ok (.imul, 1) := by decide +kernel
theorem dX9_tell_62 : decode cX9_tell 62 = .ok (.iload_n 3, 1) := by decide +kernel
theorem dX9_tell_63 : decode cX9_tell 63 = .ok (.iadd, 1) := by decide +kernel
theorem dX9_tell_64 : decode cX9_tell 64 = .ok (.iaload, 1) := by decide +kernel
theorem dX9_tell_65 : decode cX9_tell 65 = .ok (.iload 4, 2) := by decide +kernel
theorem dX9_tell_67 : decode cX9_tell 67 = .ok (.iadd, 1) := by decide +kernel
theorem dX9_tell_68 : decode cX9_tell 68 = .ok (.iastore, 1) := by decide +kernel
theorem dX9_tell_69 : decode cX9_tell 69 = .ok (.iinc 3 1, 3) := by decide +kernel
theorem dX9_tell_72 : decode cX9_tell 72 = .ok (.goto (-58), 3) := by decide +kernel
theorem dX9_tell_75 : decode cX9_tell 75 = .ok (.iinc 2 (-1), 3) := by decide +kernel
theorem dX9_tell_78 : decode cX9_tell 78 = .ok (.goto (-70), 3) := by decide +kernel
theorem dX9_tell_81 : decode cX9_tell 81 = .ok (.aload_n 0, 1) := by decide +kernel
theorem dX9_tell_82 : decode cX9_tell 82 = .ok (.getfield 38, 3) := by decide +kernel
theorem dX9_tell_85 : decode cX9_tell 85 = .ok (.iconst 0, 1) := by decide +kernel
theorem dX9_tell_86 : decode cX9_tell 86 = .ok (.iconst 0, 1) := by decide +kernel
theorem dX9_tell_87 : decode cX9_tell 87 = .ok (.iastore, 1) := by decide +kernel
theorem dX9_tell_88 : decode cX9_tell 88 = .ok (.iconst 1, 1) := by decide +kernel
theorem dX9_tell_89 : decode cX9_tell 89 = .ok (.istore_n 2, 1) := by decide +kernel
theorem dX9_tell_90 : decode cX9_tell 90 = .ok (.iload_n 2, 1) := by decide +kernel
theorem dX9_tell_91 : decode cX9_tell 91 = .ok (.bipush 10, 2) := by decide +kernel
theorem dX9_tell_93 : decode cX9_tell 93 = .ok (.if_icmp .ge 30, 3) := by decide +kernel
theorem dX9_tell_96 : decode cX9_tell 96 = .ok (.aload_n 0, 1) := by decide +kernel
theorem dX9_tell_97 : decode cX9_tell 97 = .ok (.getfield 38, 3) := by decide +kernel
theorem dX9_tell_100 : decode cX9_tell 100 = .ok (.iload_n 2, 1) := by decide +kernel
theorem dX9_tell_101 : decode cX9_tell 101 = .ok (.aload_n 0, 1) := by decide +kernel
theorem dX9_tell_102 : decode cX9_tell 102 = .ok (.iload_n 2, 1) := by decide +kernel
theorem dX9_tell_103 : decode cX9_tell 103 = .ok (.iconst 1, 1) := by decide +kernel
theorem dX9_tell_104 : decode cX9_tell 104 = .ok (.isub, 1) := by decide +kernel
theorem dX9_tell_105 : decode cX9_tell 105 = .ok (.aload_n 0, 1) := by decide +kernel
theorem dX9_tell_106 : decode cX9_tell 106 = .ok (.getfield 38, 3) := by decide +kernel
theorem dX9_tell_109 : decode cX9_tell 109 = .ok (.iload_n 2, 1) := by decide +kernel
theorem dX9_tell_110 : decode cX9_tell 110 = .ok (.iconst 1, 1) := by decide +kernel
theorem dX9_tell_111 : decode cX9_tell 111 = .ok (.isub, 1) := by decide +kernel
theorem dX9_tell_112 : decode cX9_tell 112 = .ok (.iaload, 1) := by decide +kernel
theorem dX9_tell_113 : decode cX9_tell 113 = .ok (.invokevirtual 73, 3) := by decide +kernel
theorem dX9_tell_116 : decode cX9_tell 116 = .ok (.iastore, 1) := by decide +kernel
theorem dX9_tell_117 : decode cX9_tell 117 = .ok (.iinc 2 1, 3) := by decide +kernel
theorem dX9_tell_120 : decode cX9_tell 120 = .ok (.goto (-30), 3) := by decide +kernel
theorem dX9_tell_123 : decode cX9_tell 123 = .ok (.return_, 1) := by decide +kernel
theorem dX9_priceVia_0 : decode cX9_priceVia 0 = .ok (.iload_n 2, 1) := by decide +kernel
theorem dX9_priceVia_1 : decode cX9_priceVia 1 = .ok (.iload_n 3, 1) := by decide +kernel
theorem dX9_priceVia_2 : decode cX9_priceVia 2 = .ok (.invokestatic 81, 3) := by decide +kernel
theorem dX9_priceVia_5 : decode cX9_priceVia 5 = .ok (.aload_n 0, 1) := by decide +kernel
theorem dX9_priceVia_6 : decode cX9_priceVia 6 = .ok (.getfield 35, 3) := by decide +kernel
theorem dX9_priceVia_9 : decode cX9_priceVia 9 = .ok (.iload_n 1, 1) := by decide +kernel
theorem dX9_priceVia_10 : decode cX9_priceVia 10 = .ok (.iconst 1, 1) := by decide +kernel
theorem dX9_priceVia_11 : decode cX9_priceVia 11 = .ok (.iadd, 1) := by decide +kernel
theorem dX9_priceVia_12 : decode cX9_priceVia 12 = .ok (.bipush 16, 2) := by decide +kernel
theorem dX9_priceVia_14 : decode cX9_priceVia 14 = .ok (.imul, 1) := by decide +kernel
theorem dX9_priceVia_15 : decode cX9_priceVia 15 = .ok (.iload_n 3, 1) := by decide +kernel
theorem dX9_priceVia_16 : decode cX9_priceVia 16 = .ok (.iadd, 1) := by decide +kernel
theorem dX9_priceVia_17 : decode cX9_priceVia 17 = .ok (.iaload, 1) := by decide +kernel
theorem dX9_priceVia_18 : decode cX9_priceVia 18 = .ok (.iadd, 1) := by decide +kernel
theorem dX9_priceVia_19 : decode cX9_priceVia 19 = .ok (.ireturn, 1) := by decide +kernel
theorem dX9_bestNext_0 : decode cX9_bestNext 0 = .ok (.iload_n 2, 1) := by decide +kernel
theorem dX9_bestNext_1 : decode cX9_bestNext 1 = .ok (.istore_n 3, 1) := by decide +kernel
theorem dX9_bestNext_2 : decode cX9_bestNext 2 = .ok (.aload_n 0, 1) := by decide +kernel
theorem dX9_bestNext_3 : decode cX9_bestNext 3 = .ok (.iload_n 1, 1) := by decide +kernel
theorem dX9_bestNext_4 : decode cX9_bestNext 4 = .ok (.iload_n 2, 1) := by decide +kernel
theorem dX9_bestNext_5 : decode cX9_bestNext 5 = .ok (.iload_n 2, 1) := by decide +kernel
theorem dX9_bestNext_6 : decode cX9_bestNext 6 = .ok (.invokevirtual 77, 3) := by decide +kernel
theorem dX9_bestNext_9 : decode cX9_bestNext 9 = .ok (.istore 4, 2) := by decide +kernel
theorem dX9_bestNext_11 : decode cX9_bestNext 11 = .ok (.iconst 0, 1) := by decide +kernel
theorem dX9_bestNext_12 : decode cX9_bestNext 12 = .ok (.istore 5, 2) := by decide +kernel
theorem dX9_bestNext_14 : decode cX9_bestNext 14 = .ok (.iload 5, 2) := by decide +kernel
theorem dX9_bestNext_16 : decode cX9_bestNext 16 = .ok (.bipush 16, 2) := by decide +kernel
theorem dX9_bestNext_18 : decode cX9_bestNext 18 = .ok (.if_icmp .ge 71, 3) := by decide +kernel
theorem dX9_bestNext_21 : decode cX9_bestNext 21 = .ok (.aload_n 0, 1) := by decide +kernel
theorem dX9_bestNext_22 : decode cX9_bestNext 22 = .ok (.iload_n 1, 1) := by decide +kernel
theorem dX9_bestNext_23 : decode cX9_bestNext 23 = .ok (.iload_n 2, 1) := by decide +kernel
theorem dX9_bestNext_24 : decode cX9_bestNext 24 = .ok (.iload 5, 2) := by decide +kernel
theorem dX9_bestNext_26 : decode cX9_bestNext 26 = .ok (.invokevirtual 77, 3) := by decide +kernel
theorem dX9_bestNext_29 : decode cX9_bestNext 29 = .ok (.istore 6, 2) := by decide +kernel
theorem dX9_bestNext_31 : decode cX9_bestNext 31 = .ok (.iload 6, 2) := by decide +kernel
theorem dX9_bestNext_33 : decode cX9_bestNext 33 = .ok (.iload 4, 2) := by decide +kernel
theorem dX9_bestNext_35 : decode cX9_bestNext 35 = .ok (.if_icmp .lt 16, 3) := by decide +kernel
theorem dX9_bestNext_38 : decode cX9_bestNext 38 = .ok (.iload 6, 2) := by decide +kernel
theorem dX9_bestNext_40 : decode cX9_bestNext 40 = .ok (.iload 4, 2) := by decide +kernel
theorem dX9_bestNext_42 : decode cX9_bestNext 42 = .ok (.if_icmp .ne 13, 3) := by decide +kernel
theorem dX9_bestNext_45 : decode cX9_bestNext 45 = .ok (.iload 5, 2) := by decide +kernel
theorem dX9_bestNext_47 : decode cX9_bestNext 47 = .ok (.iload_n 3, 1) := by decide +kernel
theorem dX9_bestNext_48 : decode cX9_bestNext 48 = .ok (.if_icmp .ge 7, 3) := by decide +kernel
theorem dX9_bestNext_51 : decode cX9_bestNext 51 = .ok (.iconst 1, 1) := by decide +kernel
theorem dX9_bestNext_52 : decode cX9_bestNext 52 = .ok (.goto 4, 3) := by decide +kernel
theorem dX9_bestNext_55 : decode cX9_bestNext 55 = .ok (.iconst 0, 1) := by decide +kernel
theorem dX9_bestNext_56 : decode cX9_bestNext 56 = .ok (.istore 7, 2) := by decide +kernel
theorem dX9_bestNext_58 : decode cX9_bestNext 58 = .ok (.iload 7, 2) := by decide +kernel
theorem dX9_bestNext_60 : decode cX9_bestNext 60 = .ok (.ifCond .eq 23, 3) := by decide +kernel
theorem dX9_bestNext_63 : decode cX9_bestNext 63 = .ok (.iload_n 2, 1) := by decide +kernel
theorem dX9_bestNext_64 : decode cX9_bestNext 64 = .ok (.iload 5, 2) := by decide +kernel
theorem dX9_bestNext_66 : decode cX9_bestNext 66 = .ok (.invokestatic 81, 3) := by decide +kernel
theorem dX9_bestNext_69 : decode cX9_bestNext 69 = .ok (.aload_n 0, 1) := by decide +kernel
theorem dX9_bestNext_70 : decode cX9_bestNext 70 = .ok (.getfield 28, 3) := by decide +kernel
theorem dX9_bestNext_73 : decode cX9_bestNext 73 = .ok (.if_icmp .gt 10, 3) := by decide +kernel
theorem dX9_bestNext_76 : decode cX9_bestNext 76 = .ok (.iload 5, 2) := by decide +kernel
theorem dX9_bestNext_78 : decode cX9_bestNext 78 = .ok (.istore_n 3, 1) := by decide +kernel
theorem dX9_bestNext_79 : decode cX9_bestNext 79 = .ok (.iload 6, 2) := by decide +kernel
theorem dX9_bestNext_81 : decode cX9_bestNext 81 = .ok (.istore 4, 2) := by decide +kernel
theorem dX9_bestNext_83 : decode cX9_bestNext 83 = .ok (.iinc 5 1, 3) := by decide +kernel
theorem dX9_bestNext_86 : decode cX9_bestNext 86 = .ok (.goto (-72), 3) := by decide +kernel
theorem dX9_bestNext_89 : decode cX9_bestNext 89 = .ok (.iload_n 3, 1) := by decide +kernel
theorem dX9_bestNext_90 : decode cX9_bestNext 90 = .ok (.ireturn, 1) := by decide +kernel
theorem dX9_leastPrice_0 : decode cX9_leastPrice 0 = .ok (.aload_n 0, 1) := by decide +kernel
theorem dX9_leastPrice_1 : decode cX9_leastPrice 1 = .ok (.getfield 35, 3) := by decide +kernel
theorem dX9_leastPrice_4 : decode cX9_leastPrice 4 = .ok (.iconst 0, 1) := by decide +kernel
theorem dX9_leastPrice_5 : decode cX9_leastPrice 5 = .ok (.iaload, 1) := by decide +kernel
theorem dX9_leastPrice_6 : decode cX9_leastPrice 6 = .ok (.ireturn, 1) := by decide +kernel
theorem dX9_placeAt_0 : decode cX9_placeAt 0 = .ok (.aload_n 0, 1) := by decide +kernel
theorem dX9_placeAt_1 : decode cX9_placeAt 1 = .ok (.getfield 38, 3) := by decide +kernel
theorem dX9_placeAt_4 : decode cX9_placeAt 4 = .ok (.iload_n 1, 1) := by decide +kernel
theorem dX9_placeAt_5 : decode cX9_placeAt 5 = .ok (.iaload, 1) := by decide +kernel
theorem dX9_placeAt_6 : decode cX9_placeAt 6 = .ok (.ireturn, 1) := by decide +kernel
theorem dX9_figureOf_0 : decode cX9_figureOf 0 = .ok (.lload_n 0, 1) := by decide +kernel
theorem dX9_figureOf_1 : decode cX9_figureOf 1 = .ok (.iconst 4, 1) := by decide +kernel
theorem dX9_figureOf_2 : decode cX9_figureOf 2 = .ok (.iload_n 2, 1) := by decide +kernel
theorem dX9_figureOf_3 : decode cX9_figureOf 3 = .ok (.imul, 1) := by decide +kernel
theorem dX9_figureOf_4 : decode cX9_figureOf 4 = .ok (.lshr, 1) := by decide +kernel
theorem dX9_figureOf_5 : decode cX9_figureOf 5 = .ok (.ldc2_w 84, 3) := by decide +kernel
theorem dX9_figureOf_8 : decode cX9_figureOf 8 = .ok (.land, 1) := by decide +kernel
theorem dX9_figureOf_9 : decode cX9_figureOf 9 = .ok (.l2i, 1) := by decide +kernel
theorem dX9_figureOf_10 : decode cX9_figureOf 10 = .ok (.ireturn, 1) := by decide +kernel
theorem dX9_priceOf_0 : decode cX9_priceOf 0 = .ok (.lload_n 2, 1) := by decide +kernel
theorem dX9_priceOf_1 : decode cX9_priceOf 1 = .ok (.iconst 0, 1) := by decide +kernel
theorem dX9_priceOf_2 : decode cX9_priceOf 2 = .ok (.invokestatic 86, 3) := by decide +kernel
theorem dX9_priceOf_5 : decode cX9_priceOf 5 = .ok (.ifCond .eq 5, 3) := by decide +kernel
theorem dX9_priceOf_8 : decode cX9_priceOf 8 = .ok (.iconst (-1), 1) := by decide +kernel
theorem dX9_priceOf_9 : decode cX9_priceOf 9 = .ok (.ireturn, 1) := by decide +kernel
theorem dX9_priceOf_10 : decode cX9_priceOf 10 = .ok (.aload_n 0, 1) := by decide +kernel
theorem dX9_priceOf_11 : decode cX9_priceOf 11 = .ok (.iload_n 1, 1) := by decide +kernel
theorem dX9_priceOf_12 : decode cX9_priceOf 12 = .ok (.invokevirtual 70, 3) := by decide +kernel
theorem dX9_priceOf_15 : decode cX9_priceOf 15 = .ok (.aload_n 0, 1) := by decide +kernel
theorem dX9_priceOf_16 : decode cX9_priceOf 16 = .ok (.getfield 32, 3) := by decide +kernel
theorem dX9_priceOf_19 : decode cX9_priceOf 19 = .ok (.iconst 0, 1) := by decide +kernel
theorem dX9_priceOf_20 : decode cX9_priceOf 20 = .ok (.iaload, 1) := by decide +kernel
theorem dX9_priceOf_21 : decode cX9_priceOf 21 = .ok (.istore 4, 2) := by decide +kernel
theorem dX9_priceOf_23 : decode cX9_priceOf 23 = .ok (.iconst 1, 1) := by decide +kernel
theorem dX9_priceOf_24 : decode cX9_priceOf 24 = .ok (.istore 5, 2) := by decide +kernel
theorem dX9_priceOf_26 : decode cX9_priceOf 26 = .ok (.iload 5, 2) := by decide +kernel
theorem dX9_priceOf_28 : decode cX9_priceOf 28 = .ok (.bipush 10, 2) := by decide +kernel
theorem dX9_priceOf_30 : decode cX9_priceOf 30 = .ok (.if_icmp .ge 64, 3) := by decide +kernel
theorem dX9_priceOf_33 : decode cX9_priceOf 33 = .ok (.lload_n 2, 1) := by decide +kernel
theorem dX9_priceOf_34 : decode cX9_priceOf 34 = .ok (.iload 5, 2) := by decide +kernel
theorem dX9_priceOf_36 : decode cX9_priceOf 36 = .ok (.invokestatic 86, 3) := by decide +kernel
theorem dX9_priceOf_39 : decode cX9_priceOf 39 = .ok (.istore 6, 2) := by decide +kernel
theorem dX9_priceOf_41 : decode cX9_priceOf 41 = .ok (.lload_n 2, 1) := by decide +kernel
theorem dX9_priceOf_42 : decode cX9_priceOf 42 = .ok (.iload 5, 2) := by decide +kernel
theorem dX9_priceOf_44 : decode cX9_priceOf 44 = .ok (.iconst 1, 1) := by decide +kernel
theorem dX9_priceOf_45 : decode cX9_priceOf 45 = .ok (.isub, 1) := by decide +kernel
theorem dX9_priceOf_46 : decode cX9_priceOf 46 = .ok (.invokestatic 86, 3) := by decide +kernel
theorem dX9_priceOf_49 : decode cX9_priceOf 49 = .ok (.iload 6, 2) := by decide +kernel
theorem dX9_priceOf_51 : decode cX9_priceOf 51 = .ok (.invokestatic 81, 3) := by decide +kernel
theorem dX9_priceOf_54 : decode cX9_priceOf 54 = .ok (.istore 7, 2) := by decide +kernel
theorem dX9_priceOf_56 : decode cX9_priceOf 56 = .ok (.iload 7, 2) := by decide +kernel
theorem dX9_priceOf_58 : decode cX9_priceOf 58 = .ok (.aload_n 0, 1) := by decide +kernel
theorem dX9_priceOf_59 : decode cX9_priceOf 59 = .ok (.getfield 28, 3) := by decide +kernel
theorem dX9_priceOf_62 : decode cX9_priceOf 62 = .ok (.if_icmp .le 5, 3) := by decide +kernel
theorem dX9_priceOf_65 : decode cX9_priceOf 65 = .ok (.iconst (-1), 1) := by decide +kernel
theorem dX9_priceOf_66 : decode cX9_priceOf 66 = .ok (.ireturn, 1) := by decide +kernel
theorem dX9_priceOf_67 : decode cX9_priceOf 67 = .ok (.iload 4, 2) := by decide +kernel
theorem dX9_priceOf_69 : decode cX9_priceOf 69 = .ok (.iload 7, 2) := by decide +kernel
theorem dX9_priceOf_71 : decode cX9_priceOf 71 = .ok (.aload_n 0, 1) := by decide +kernel
theorem dX9_priceOf_72 : decode cX9_priceOf 72 = .ok (.getfield 32, 3) := by decide +kernel
theorem dX9_priceOf_75 : decode cX9_priceOf 75 = .ok (.iload 5, 2) := by decide +kernel
theorem dX9_priceOf_77 : decode cX9_priceOf 77 = .ok (.bipush 16, 2) := by decide +kernel
theorem dX9_priceOf_79 : decode cX9_priceOf 79 = .ok (.imul, 1) := by decide +kernel
theorem dX9_priceOf_80 : decode cX9_priceOf 80 = .ok (.iload 6, 2) := by decide +kernel
theorem dX9_priceOf_82 : decode cX9_priceOf 82 = .ok (.iadd, 1) := by decide +kernel
theorem dX9_priceOf_83 : decode cX9_priceOf 83 = .ok (.iaload, 1) := by decide +kernel
theorem dX9_priceOf_84 : decode cX9_priceOf 84 = .ok (.iadd, 1) := by decide +kernel
theorem dX9_priceOf_85 : decode cX9_priceOf 85 = .ok (.iadd, 1) := by decide +kernel
theorem dX9_priceOf_86 : decode cX9_priceOf 86 = .ok (.istore 4, 2) := by decide +kernel
theorem dX9_priceOf_88 : decode cX9_priceOf 88 = .ok (.iinc 5 1, 3) := by decide +kernel
theorem dX9_priceOf_91 : decode cX9_priceOf 91 = .ok (.goto (-65), 3) := by decide +kernel
theorem dX9_priceOf_94 : decode cX9_priceOf 94 = .ok (.iload 4, 2) := by decide +kernel
theorem dX9_priceOf_96 : decode cX9_priceOf 96 = .ok (.ireturn, 1) := by decide +kernel
theorem dX9_told_0 : decode cX9_told 0 = .ok (.lload_n 1, 1) := by decide +kernel
theorem dX9_told_1 : decode cX9_told 1 = .ok (.aload_n 0, 1) := by decide +kernel
theorem dX9_told_2 : decode cX9_told 2 = .ok (.getfield 28, 3) := by decide +kernel
theorem dX9_told_5 : decode cX9_told 5 = .ok (.i2l, 1) := by decide +kernel
theorem dX9_told_6 : decode cX9_told 6 = .ok (.invokestatic 90, 3) := by decide +kernel
theorem dX9_told_9 : decode cX9_told 9 = .ok (.lstore_n 1, 1) := by decide +kernel
theorem dX9_told_10 : decode cX9_told 10 = .ok (.iconst 0, 1) := by decide +kernel
theorem dX9_told_11 : decode cX9_told 11 = .ok (.istore_n 3, 1) := by decide +kernel
theorem dX9_told_12 : decode cX9_told 12 = .ok (.iload_n 3, 1) := by decide +kernel
theorem dX9_told_13 : decode cX9_told 13 = .ok (.aload_n 0, 1) := by decide +kernel
theorem dX9_told_14 : decode cX9_told 14 = .ok (.getfield 45, 3) := by decide +kernel
theorem dX9_told_17 : decode cX9_told 17 = .ok (.if_icmp .ge 76, 3) := by decide +kernel
theorem dX9_told_20 : decode cX9_told 20 = .ok (.lload_n 1, 1) := by decide +kernel
theorem dX9_told_21 : decode cX9_told 21 = .ok (.aload_n 0, 1) := by decide +kernel
theorem dX9_told_22 : decode cX9_told 22 = .ok (.getfield 11, 3) := by decide +kernel
theorem dX9_told_25 : decode cX9_told 25 = .ok (.iload_n 3, 1) := by decide +kernel
theorem dX9_told_26 : decode cX9_told 26 = .ok (.iaload, 1) := by decide +kernel
theorem dX9_told_27 : decode cX9_told 27 = .ok (.i2l, 1) := by decide +kernel
theorem dX9_told_28 : decode cX9_told 28 = .ok (.invokestatic 90, 3) := by decide +kernel
theorem dX9_told_31 : decode cX9_told 31 = .ok (.lstore_n 1, 1) := by decide +kernel
theorem dX9_told_32 : decode cX9_told 32 = .ok (.lload_n 1, 1) := by decide +kernel
theorem dX9_told_33 : decode cX9_told 33 = .ok (.aload_n 0, 1) := by decide +kernel
theorem dX9_told_34 : decode cX9_told 34 = .ok (.getfield 15, 3) := by decide +kernel
theorem dX9_told_37 : decode cX9_told 37 = .ok (.iload_n 3, 1) := by decide +kernel
theorem dX9_told_38 : decode cX9_told 38 = .ok (.iaload, 1) := by decide +kernel
theorem dX9_told_39 : decode cX9_told 39 = .ok (.i2l, 1) := by decide +kernel
theorem dX9_told_40 : decode cX9_told 40 = .ok (.invokestatic 90, 3) := by decide +kernel
theorem dX9_told_43 : decode cX9_told 43 = .ok (.lstore_n 1, 1) := by decide +kernel
theorem dX9_told_44 : decode cX9_told 44 = .ok (.lload_n 1, 1) := by decide +kernel
theorem dX9_told_45 : decode cX9_told 45 = .ok (.aload_n 0, 1) := by decide +kernel
theorem dX9_told_46 : decode cX9_told 46 = .ok (.getfield 18, 3) := by decide +kernel
theorem dX9_told_49 : decode cX9_told 49 = .ok (.iload_n 3, 1) := by decide +kernel
theorem dX9_told_50 : decode cX9_told 50 = .ok (.iaload, 1) := by decide +kernel
theorem dX9_told_51 : decode cX9_told 51 = .ok (.i2l, 1) := by decide +kernel
theorem dX9_told_52 : decode cX9_told 52 = .ok (.invokestatic 90, 3) := by decide +kernel
theorem dX9_told_55 : decode cX9_told 55 = .ok (.lstore_n 1, 1) := by decide +kernel
theorem dX9_told_56 : decode cX9_told 56 = .ok (.lload_n 1, 1) := by decide +kernel
theorem dX9_told_57 : decode cX9_told 57 = .ok (.aload_n 0, 1) := by decide +kernel
theorem dX9_told_58 : decode cX9_told 58 = .ok (.getfield 21, 3) := by decide +kernel
theorem dX9_told_61 : decode cX9_told 61 = .ok (.iload_n 3, 1) := by decide +kernel
theorem dX9_told_62 : decode cX9_told 62 = .ok (.baload, 1) := by decide +kernel
theorem dX9_told_63 : decode cX9_told 63 = .ok (.ifCond .eq 7, 3) := by decide +kernel
theorem dX9_told_66 : decode cX9_told 66 = .ok (.lconst 1, 1) := by decide +kernel
theorem dX9_told_67 : decode cX9_told 67 = .ok (.goto 4, 3) := by decide +kernel
theorem dX9_told_70 : decode cX9_told 70 = .ok (.lconst 0, 1) := by decide +kernel
theorem dX9_told_71 : decode cX9_told 71 = .ok (.invokestatic 90, 3) := by decide +kernel
theorem dX9_told_74 : decode cX9_told 74 = .ok (.lstore_n 1, 1) := by decide +kernel
theorem dX9_told_75 : decode cX9_told 75 = .ok (.lload_n 1, 1) := by decide +kernel
theorem dX9_told_76 : decode cX9_told 76 = .ok (.aload_n 0, 1) := by decide +kernel
theorem dX9_told_77 : decode cX9_told 77 = .ok (.getfield 25, 3) := by decide +kernel
theorem dX9_told_80 : decode cX9_told 80 = .ok (.iload_n 3, 1) := by decide +kernel
theorem dX9_told_81 : decode cX9_told 81 = .ok (.iaload, 1) := by decide +kernel
theorem dX9_told_82 : decode cX9_told 82 = .ok (.i2l, 1) := by decide +kernel
theorem dX9_told_83 : decode cX9_told 83 = .ok (.invokestatic 90, 3) := by decide +kernel
theorem dX9_told_86 : decode cX9_told 86 = .ok (.lstore_n 1, 1) := by decide +kernel
theorem dX9_told_87 : decode cX9_told 87 = .ok (.iinc 3 1, 3) := by decide +kernel
theorem dX9_told_90 : decode cX9_told 90 = .ok (.goto (-78), 3) := by decide +kernel
theorem dX9_told_93 : decode cX9_told 93 = .ok (.lload_n 1, 1) := by decide +kernel
theorem dX9_told_94 : decode cX9_told 94 = .ok (.lreturn, 1) := by decide +kernel
theorem dX10_init_0 : decode cX10_init 0 = .ok (.aload_n 0, 1) := by decide +kernel
theorem dX10_init_1 : decode cX10_init 1 = .ok (.invokespecial 3, 3) := by decide +kernel
theorem dX10_init_4 : decode cX10_init 4 = .ok (.return_, 1) := by decide +kernel
theorem dX10_change_0 : decode cX10_change 0 = .ok (.aload_n 0, 1) := by decide +kernel
theorem dX10_change_1 : decode cX10_change 1 = .ok (.getfield 9, 3) := by decide +kernel
theorem dX10_change_4 : decode cX10_change 4 = .ok (.istore_n 2, 1) := by decide +kernel
theorem dX10_change_5 : decode cX10_change 5 = .ok (.aload_n 0, 1) := by decide +kernel
theorem dX10_change_6 : decode cX10_change 6 = .ok (.iload_n 1, 1) := by decide +kernel
theorem dX10_change_7 : decode cX10_change 7 = .ok (.putfield 9, 3) := by decide +kernel
theorem dX10_change_10 : decode cX10_change 10 = .ok (.iload_n 2, 1) := by decide +kernel
theorem dX10_change_11 : decode cX10_change 11 = .ok (.ireturn, 1) := by decide +kernel
theorem dX10_sameAbout_0 : decode cX10_sameAbout 0 = .ok (.iload_n 1, 1) := by decide +kernel
theorem dX10_sameAbout_1 : decode cX10_sameAbout 1 = .ok (.bipush 24, 2) := by decide +kernel
theorem dX10_sameAbout_3 : decode cX10_sameAbout 3 = .ok (.iload_n 1, 1) := by decide +kernel
theorem dX10_sameAbout_4 : decode cX10_sameAbout 4 = .ok (.isub, 1) := by decide +kernel
theorem dX10_sameAbout_5 : decode cX10_sameAbout 5 = .ok (.invokestatic 13, 3) := by decide +kernel
theorem dX10_sameAbout_8 : decode cX10_sameAbout 8 = .ok (.istore_n 2, 1) := by decide +kernel
theorem dX10_sameAbout_9 : decode cX10_sameAbout 9 = .ok (.iconst 0, 1) := by decide +kernel
theorem dX10_sameAbout_10 : decode cX10_sameAbout 10 = .ok (.istore_n 3, 1) := by decide +kernel
theorem dX10_sameAbout_11 : decode cX10_sameAbout 11 = .ok (.iload_n 3, 1) := by decide +kernel
theorem dX10_sameAbout_12 : decode cX10_sameAbout 12 = .ok (.iload_n 2, 1) := by decide +kernel
theorem dX10_sameAbout_13 : decode cX10_sameAbout 13 = .ok (.if_icmp .ge 36, 3) := by decide +kernel
theorem dX10_sameAbout_16 : decode cX10_sameAbout 16 = .ok (.aload_n 0, 1) := by decide +kernel
theorem dX10_sameAbout_17 : decode cX10_sameAbout 17 = .ok (.getfield 9, 3) := by decide +kernel
theorem dX10_sameAbout_20 : decode cX10_sameAbout 20 = .ok (.iload_n 1, 1) := by decide +kernel
theorem dX10_sameAbout_21 : decode cX10_sameAbout 21 = .ok (.iconst 1, 1) := by decide +kernel
theorem dX10_sameAbout_22 : decode cX10_sameAbout 22 = .ok (.isub, 1) := by decide +kernel
theorem dX10_sameAbout_23 : decode cX10_sameAbout 23 = .ok (.iload_n 3, 1) := by decide +kernel
theorem dX10_sameAbout_24 : decode cX10_sameAbout 24 = .ok (.isub, 1) := by decide +kernel
theorem dX10_sameAbout_25 : decode cX10_sameAbout 25 = .ok (.ishr, 1) := by decide +kernel
theorem dX10_sameAbout_26 : decode cX10_sameAbout 26 = .ok (.iconst 1, 1) := by decide +kernel
theorem dX10_sameAbout_27 : decode cX10_sameAbout 27 = .ok (.iand, 1) := by decide +kernel
theorem dX10_sameAbout_28 : decode cX10_sameAbout 28 = .ok (.aload_n 0, 1) := by decide +kernel
theorem dX10_sameAbout_29 : decode cX10_sameAbout 29 = .ok (.getfield 9, 3) := by decide +kernel
theorem dX10_sameAbout_32 : decode cX10_sameAbout 32 = .ok (.iload_n 1, 1) := by decide +kernel
theorem dX10_sameAbout_33 : decode cX10_sameAbout 33 = .ok (.iload_n 3, 1) := by decide +kernel
theorem dX10_sameAbout_34 : decode cX10_sameAbout 34 = .ok (.iadd, 1) := by decide +kernel
theorem dX10_sameAbout_35 : decode cX10_sameAbout 35 = .ok (.ishr, 1) := by decide +kernel
theorem dX10_sameAbout_36 : decode cX10_sameAbout 36 = .ok (.iconst 1, 1) := by decide +kernel
theorem dX10_sameAbout_37 : decode cX10_sameAbout 37 = .ok (.iand, 1) := by decide +kernel
theorem dX10_sameAbout_38 : decode cX10_sameAbout 38 = .ok (.if_icmp .eq 5, 3) := by decide +kernel
theorem dX10_sameAbout_41 : decode cX10_sameAbout 41 = .ok (.iload_n 3, 1) := by decide +kernel
theorem dX10_sameAbout_42 : decode cX10_sameAbout 42 = .ok (.ireturn, 1) := by decide +kernel
theorem dX10_sameAbout_43 : decode cX10_sameAbout 43 = .ok (.iinc 3 1, 3) := by decide +kernel
theorem dX10_sameAbout_46 : decode cX10_sameAbout 46 = .ok (.goto (-35), 3) := by decide +kernel
theorem dX10_sameAbout_49 : decode cX10_sameAbout 49 = .ok (.iload_n 2, 1) := by decide +kernel
theorem dX10_sameAbout_50 : decode cX10_sameAbout 50 = .ok (.ireturn, 1) := by decide +kernel
theorem dX10_bestPlace_0 : decode cX10_bestPlace 0 = .ok (.iconst 1, 1) := by decide +kernel
theorem dX10_bestPlace_1 : decode cX10_bestPlace 1 = .ok (.istore_n 1, 1) := by decide +kernel
theorem dX10_bestPlace_2 : decode cX10_bestPlace 2 = .ok (.aload_n 0, 1) := by decide +kernel
theorem dX10_bestPlace_3 : decode cX10_bestPlace 3 = .ok (.iconst 1, 1) := by decide +kernel
theorem dX10_bestPlace_4 : decode cX10_bestPlace 4 = .ok (.invokevirtual 19, 3) := by decide +kernel
theorem dX10_bestPlace_7 : decode cX10_bestPlace 7 = .ok (.istore_n 2, 1) := by decide +kernel
theorem dX10_bestPlace_8 : decode cX10_bestPlace 8 = .ok (.iconst 2, 1) := by decide +kernel
theorem dX10_bestPlace_9 : decode cX10_bestPlace 9 = .ok (.istore_n 3, 1) := by decide +kernel
theorem dX10_bestPlace_10 : decode cX10_bestPlace 10 = .ok (.iload_n 3, 1) := by decide +kernel
theorem dX10_bestPlace_11 : decode cX10_bestPlace 11 = .ok (.bipush 24, 2) := by decide +kernel
theorem dX10_bestPlace_13 : decode cX10_bestPlace 13 = .ok (.if_icmp .ge 62, 3) := by decide +kernel
theorem dX10_bestPlace_16 : decode cX10_bestPlace 16 = .ok (.aload_n 0, 1) := by decide +kernel
theorem dX10_bestPlace_17 : decode cX10_bestPlace 17 = .ok (.iload_n 3, 1) := by decide +kernel
theorem dX10_bestPlace_18 : decode cX10_bestPlace 18 = .ok (.invokevirtual 19, 3) := by decide +kernel
theorem dX10_bestPlace_21 : decode cX10_bestPlace 21 = .ok (.istore 4, 2) := by decide +kernel
theorem dX10_bestPlace_23 : decode cX10_bestPlace 23 = .ok (.iload_n 3, 1) := by decide +kernel
theorem dX10_bestPlace_24 : decode cX10_bestPlace 24 = .ok (.bipush 12, 2) := by decide +kernel
theorem dX10_bestPlace_26 : decode cX10_bestPlace 26 = .ok (.isub, 1) := by decide +kernel
theorem dX10_bestPlace_27 : decode cX10_bestPlace 27 = .ok (.invokestatic 23, 3) := by decide +kernel
theorem dX10_bestPlace_30 : decode cX10_bestPlace 30 = .ok (.iload_n 1, 1) := by decide +kernel
theorem dX10_bestPlace_31 : decode cX10_bestPlace 31 = .ok (.bipush 12, 2) := by decide +kernel
theorem dX10_bestPlace_33 : decode cX10_bestPlace 33 = .ok (.isub, 1) := by decide +kernel
theorem dX10_bestPlace_34 : decode cX10_bestPlace 34 = .ok (.invokestatic 23, 3) := by decide +kernel
theorem dX10_bestPlace_37 : decode cX10_bestPlace 37 = .ok (.if_icmp .ge 7, 3) := by decide +kernel
theorem dX10_bestPlace_40 : decode cX10_bestPlace 40 = .ok (.iconst 1, 1) := by decide +kernel
theorem dX10_bestPlace_41 : decode cX10_bestPlace 41 = .ok (.goto 4, 3) := by decide +kernel
theorem dX10_bestPlace_44 : decode cX10_bestPlace 44 = .ok (.iconst 0, 1) := by decide +kernel
theorem dX10_bestPlace_45 : decode cX10_bestPlace 45 = .ok (.istore 5, 2) := by decide +kernel
theorem dX10_bestPlace_47 : decode cX10_bestPlace 47 = .ok (.iload 4, 2) := by decide +kernel
theorem dX10_bestPlace_49 : decode cX10_bestPlace 49 = .ok (.iload_n 2, 1) := by decide +kernel
theorem dX10_bestPlace_50 : decode cX10_bestPlace 50 = .ok (.if_icmp .gt 14, 3) := by decide +kernel
theorem dX10_bestPlace_53 : decode cX10_bestPlace 53 = .ok (.iload 4, 2) := by decide +kernel
theorem dX10_bestPlace_55 : decode cX10_bestPlace 55 = .ok (.iload_n 2, 1) := by decide +kernel
theorem dX10_bestPlace_56 : decode cX10_bestPlace 56 = .ok (.if_icmp .ne 13, 3) := by decide +kernel
theorem dX10_bestPlace_59 : decode cX10_bestPlace 59 = .ok (.iload 5, 2) := by decide +kernel
theorem dX10_bestPlace_61 : decode cX10_bestPlace 61 = .ok (.ifCond .eq 8, 3) := by decide +kernel
theorem dX10_bestPlace_64 : decode cX10_bestPlace 64 = .ok (.iload_n 3, 1) := by decide +kernel
theorem dX10_bestPlace_65 : decode cX10_bestPlace 65 = .ok (.istore_n 1, 1) := by decide +kernel
theorem dX10_bestPlace_66 : decode cX10_bestPlace 66 = .ok (.iload 4, 2) := by decide +kernel
theorem dX10_bestPlace_68 : decode cX10_bestPlace 68 = .ok (.istore_n 2, 1) := by decide +kernel
theorem dX10_bestPlace_69 : decode cX10_bestPlace 69 = .ok (.iinc 3 1, 3) := by decide +kernel
theorem dX10_bestPlace_72 : decode cX10_bestPlace 72 = .ok (.goto (-62), 3) := by decide +kernel
theorem dX10_bestPlace_75 : decode cX10_bestPlace 75 = .ok (.iload_n 1, 1) := by decide +kernel
theorem dX10_bestPlace_76 : decode cX10_bestPlace 76 = .ok (.ireturn, 1) := by decide +kernel
theorem dX10_told_0 : decode cX10_told 0 = .ok (.lload_n 1, 1) := by decide +kernel
theorem dX10_told_1 : decode cX10_told 1 = .ok (.aload_n 0, 1) := by decide +kernel
theorem dX10_told_2 : decode cX10_told 2 = .ok (.getfield 9, 3) := by decide +kernel
theorem dX10_told_5 : decode cX10_told 5 = .ok (.i2l, 1) := by decide +kernel
theorem dX10_told_6 : decode cX10_told 6 = .ok (.invokestatic 26, 3) := by decide +kernel
theorem dX10_told_9 : decode cX10_told 9 = .ok (.aload_n 0, 1) := by decide +kernel
theorem dX10_told_10 : decode cX10_told 10 = .ok (.invokevirtual 32, 3) := by decide +kernel
theorem dX10_told_13 : decode cX10_told 13 = .ok (.i2l, 1) := by decide +kernel
theorem dX10_told_14 : decode cX10_told 14 = .ok (.invokestatic 26, 3) := by decide +kernel
theorem dX10_told_17 : decode cX10_told 17 = .ok (.lreturn, 1) := by decide +kernel
theorem dJ6_numberOfTrailingZeros_0f7a4_0 : decode cJ6_numberOfTrailingZeros_0f7a4 0 = .ok (.iload_n 0, 1) := by decide +kernel
theorem dJ6_numberOfTrailingZeros_0f7a4_1 : decode cJ6_numberOfTrailingZeros_0f7a4 1 = .ok (.iconst (-1), 1) := by decide +kernel
theorem dJ6_numberOfTrailingZeros_0f7a4_2 : decode cJ6_numberOfTrailingZeros_0f7a4 2 = .ok (.ixor, 1) := by decide +kernel
theorem dJ6_numberOfTrailingZeros_0f7a4_3 : decode cJ6_numberOfTrailingZeros_0f7a4 3 = .ok (.iload_n 0, 1) := by decide +kernel
theorem dJ6_numberOfTrailingZeros_0f7a4_4 : decode cJ6_numberOfTrailingZeros_0f7a4 4 = .ok (.iconst 1, 1) := by decide +kernel
theorem dJ6_numberOfTrailingZeros_0f7a4_5 : decode cJ6_numberOfTrailingZeros_0f7a4 5 = .ok (.isub, 1) := by decide +kernel
theorem dJ6_numberOfTrailingZeros_0f7a4_6 : decode cJ6_numberOfTrailingZeros_0f7a4 6 = .ok (.iand, 1) := by decide +kernel
theorem dJ6_numberOfTrailingZeros_0f7a4_7 : decode cJ6_numberOfTrailingZeros_0f7a4 7 = .ok (.istore_n 0, 1) := by decide +kernel
theorem dJ6_numberOfTrailingZeros_0f7a4_8 : decode cJ6_numberOfTrailingZeros_0f7a4 8 = .ok (.iload_n 0, 1) := by decide +kernel
theorem dJ6_numberOfTrailingZeros_0f7a4_9 : decode cJ6_numberOfTrailingZeros_0f7a4 9 = .ok (.ifCond .gt 8, 3) := by decide +kernel
theorem dJ6_numberOfTrailingZeros_0f7a4_12 : decode cJ6_numberOfTrailingZeros_0f7a4 12 = .ok (.iload_n 0, 1) := by decide +kernel
theorem dJ6_numberOfTrailingZeros_0f7a4_13 : decode cJ6_numberOfTrailingZeros_0f7a4 13 = .ok (.bipush 32, 2) := by decide +kernel
theorem dJ6_numberOfTrailingZeros_0f7a4_15 : decode cJ6_numberOfTrailingZeros_0f7a4 15 = .ok (.iand, 1) := by decide +kernel
theorem dJ6_numberOfTrailingZeros_0f7a4_16 : decode cJ6_numberOfTrailingZeros_0f7a4 16 = .ok (.ireturn, 1) := by decide +kernel
theorem dJ6_numberOfTrailingZeros_0f7a4_17 : decode cJ6_numberOfTrailingZeros_0f7a4 17 = .ok (.iconst 1, 1) := by decide +kernel
theorem dJ6_numberOfTrailingZeros_0f7a4_18 : decode cJ6_numberOfTrailingZeros_0f7a4 18 = .ok (.istore_n 1, 1) := by decide +kernel
theorem dJ6_numberOfTrailingZeros_0f7a4_19 : decode cJ6_numberOfTrailingZeros_0f7a4 19 = .ok (.iload_n 0, 1) := by decide +kernel
theorem dJ6_numberOfTrailingZeros_0f7a4_20 : decode cJ6_numberOfTrailingZeros_0f7a4 20 = .ok (.ldc_w 264, 3) := by decide +kernel
theorem dJ6_numberOfTrailingZeros_0f7a4_23 : decode cJ6_numberOfTrailingZeros_0f7a4 23 = .ok (.if_icmp .le 11, 3) := by decide +kernel
theorem dJ6_numberOfTrailingZeros_0f7a4_26 : decode cJ6_numberOfTrailingZeros_0f7a4 26 = .ok (.iinc 1 16, 3) := by decide +kernel
theorem dJ6_numberOfTrailingZeros_0f7a4_29 : decode cJ6_numberOfTrailingZeros_0f7a4 29 = .ok (.iload_n 0, 1) := by decide +kernel
theorem dJ6_numberOfTrailingZeros_0f7a4_30 : decode cJ6_numberOfTrailingZeros_0f7a4 30 = .ok (.bipush 16, 2) := by decide +kernel
theorem dJ6_numberOfTrailingZeros_0f7a4_32 : decode cJ6_numberOfTrailingZeros_0f7a4 32 = .ok (.iushr, 1) := by decide +kernel
theorem dJ6_numberOfTrailingZeros_0f7a4_33 : decode cJ6_numberOfTrailingZeros_0f7a4 33 = .ok (.istore_n 0, 1) := by decide +kernel
theorem dJ6_numberOfTrailingZeros_0f7a4_34 : decode cJ6_numberOfTrailingZeros_0f7a4 34 = .ok (.iload_n 0, 1) := by decide +kernel
theorem dJ6_numberOfTrailingZeros_0f7a4_35 : decode cJ6_numberOfTrailingZeros_0f7a4 35 = .ok (.sipush 256, 3) := by decide +kernel
theorem dJ6_numberOfTrailingZeros_0f7a4_38 : decode cJ6_numberOfTrailingZeros_0f7a4 38 = .ok (.if_icmp .le 11, 3) := by decide +kernel
theorem dJ6_numberOfTrailingZeros_0f7a4_41 : decode cJ6_numberOfTrailingZeros_0f7a4 41 = .ok (.iinc 1 8, 3) := by decide +kernel
theorem dJ6_numberOfTrailingZeros_0f7a4_44 : decode cJ6_numberOfTrailingZeros_0f7a4 44 = .ok (.iload_n 0, 1) := by decide +kernel
theorem dJ6_numberOfTrailingZeros_0f7a4_45 : decode cJ6_numberOfTrailingZeros_0f7a4 45 = .ok (.bipush 8, 2) := by decide +kernel
theorem dJ6_numberOfTrailingZeros_0f7a4_47 : decode cJ6_numberOfTrailingZeros_0f7a4 47 = .ok (.iushr, 1) := by decide +kernel
theorem dJ6_numberOfTrailingZeros_0f7a4_48 : decode cJ6_numberOfTrailingZeros_0f7a4 48 = .ok (.istore_n 0, 1) := by decide +kernel
theorem dJ6_numberOfTrailingZeros_0f7a4_49 : decode cJ6_numberOfTrailingZeros_0f7a4 49 = .ok (.iload_n 0, 1) := by decide +kernel
theorem dJ6_numberOfTrailingZeros_0f7a4_50 : decode cJ6_numberOfTrailingZeros_0f7a4 50 = .ok (.bipush 16, 2) := by decide +kernel
theorem dJ6_numberOfTrailingZeros_0f7a4_52 : decode cJ6_numberOfTrailingZeros_0f7a4 52 = .ok (.if_icmp .le 10, 3) := by decide +kernel
theorem dJ6_numberOfTrailingZeros_0f7a4_55 : decode cJ6_numberOfTrailingZeros_0f7a4 55 = .ok (.iinc 1 4, 3) := by decide +kernel
theorem dJ6_numberOfTrailingZeros_0f7a4_58 : decode cJ6_numberOfTrailingZeros_0f7a4 58 = .ok (.iload_n 0, 1) := by decide +kernel
theorem dJ6_numberOfTrailingZeros_0f7a4_59 : decode cJ6_numberOfTrailingZeros_0f7a4 59 = .ok (.iconst 4, 1) := by decide +kernel
theorem dJ6_numberOfTrailingZeros_0f7a4_60 : decode cJ6_numberOfTrailingZeros_0f7a4 60 = .ok (.iushr, 1) := by decide +kernel
theorem dJ6_numberOfTrailingZeros_0f7a4_61 : decode cJ6_numberOfTrailingZeros_0f7a4 61 = .ok (.istore_n 0, 1) := by decide +kernel
theorem dJ6_numberOfTrailingZeros_0f7a4_62 : decode cJ6_numberOfTrailingZeros_0f7a4 62 = .ok (.iload_n 0, 1) := by decide +kernel
theorem dJ6_numberOfTrailingZeros_0f7a4_63 : decode cJ6_numberOfTrailingZeros_0f7a4 63 = .ok (.iconst 4, 1) := by decide +kernel
theorem dJ6_numberOfTrailingZeros_0f7a4_64 : decode cJ6_numberOfTrailingZeros_0f7a4 64 = .ok (.if_icmp .le 10, 3) := by decide +kernel
theorem dJ6_numberOfTrailingZeros_0f7a4_67 : decode cJ6_numberOfTrailingZeros_0f7a4 67 = .ok (.iinc 1 2, 3) := by decide +kernel
theorem dJ6_numberOfTrailingZeros_0f7a4_70 : decode cJ6_numberOfTrailingZeros_0f7a4 70 = .ok (.iload_n 0, 1) := by decide +kernel
theorem dJ6_numberOfTrailingZeros_0f7a4_71 : decode cJ6_numberOfTrailingZeros_0f7a4 71 = .ok (.iconst 2, 1) := by decide +kernel
theorem dJ6_numberOfTrailingZeros_0f7a4_72 : decode cJ6_numberOfTrailingZeros_0f7a4 72 = .ok (.iushr, 1) := by decide +kernel
theorem dJ6_numberOfTrailingZeros_0f7a4_73 : decode cJ6_numberOfTrailingZeros_0f7a4 73 = .ok (.istore_n 0, 1) := by decide +kernel
theorem dJ6_numberOfTrailingZeros_0f7a4_74 : decode cJ6_numberOfTrailingZeros_0f7a4 74 = .ok (.iload_n 1, 1) := by decide +kernel
theorem dJ6_numberOfTrailingZeros_0f7a4_75 : decode cJ6_numberOfTrailingZeros_0f7a4 75 = .ok (.iload_n 0, 1) := by decide +kernel
theorem dJ6_numberOfTrailingZeros_0f7a4_76 : decode cJ6_numberOfTrailingZeros_0f7a4 76 = .ok (.iconst 1, 1) := by decide +kernel
theorem dJ6_numberOfTrailingZeros_0f7a4_77 : decode cJ6_numberOfTrailingZeros_0f7a4 77 = .ok (.iushr, 1) := by decide +kernel
theorem dJ6_numberOfTrailingZeros_0f7a4_78 : decode cJ6_numberOfTrailingZeros_0f7a4 78 = .ok (.iadd, 1) := by decide +kernel
theorem dJ6_numberOfTrailingZeros_0f7a4_79 : decode cJ6_numberOfTrailingZeros_0f7a4 79 = .ok (.ireturn, 1) := by decide +kernel
theorem dJ6_bitCount_0f7a4_0 : decode cJ6_bitCount_0f7a4 0 = .ok (.iload_n 0, 1) := by decide +kernel
theorem dJ6_bitCount_0f7a4_1 : decode cJ6_bitCount_0f7a4 1 = .ok (.iload_n 0, 1) := by decide +kernel
theorem dJ6_bitCount_0f7a4_2 : decode cJ6_bitCount_0f7a4 2 = .ok (.iconst 1, 1) := by decide +kernel
theorem dJ6_bitCount_0f7a4_3 : decode cJ6_bitCount_0f7a4 3 = .ok (.iushr, 1) := by decide +kernel
theorem dJ6_bitCount_0f7a4_4 : decode cJ6_bitCount_0f7a4 4 = .ok (.ldc_w 265, 3) := by decide +kernel
theorem dJ6_bitCount_0f7a4_7 : decode cJ6_bitCount_0f7a4 7 = .ok (.iand, 1) := by decide +kernel
theorem dJ6_bitCount_0f7a4_8 : decode cJ6_bitCount_0f7a4 8 = .ok (.isub, 1) := by decide +kernel
theorem dJ6_bitCount_0f7a4_9 : decode cJ6_bitCount_0f7a4 9 = .ok (.istore_n 0, 1) := by decide +kernel
theorem dJ6_bitCount_0f7a4_10 : decode cJ6_bitCount_0f7a4 10 = .ok (.iload_n 0, 1) := by decide +kernel
theorem dJ6_bitCount_0f7a4_11 : decode cJ6_bitCount_0f7a4 11 = .ok (.ldc_w 266, 3) := by decide +kernel
theorem dJ6_bitCount_0f7a4_14 : decode cJ6_bitCount_0f7a4 14 = .ok (.iand, 1) := by decide +kernel
theorem dJ6_bitCount_0f7a4_15 : decode cJ6_bitCount_0f7a4 15 = .ok (.iload_n 0, 1) := by decide +kernel
theorem dJ6_bitCount_0f7a4_16 : decode cJ6_bitCount_0f7a4 16 = .ok (.iconst 2, 1) := by decide +kernel
theorem dJ6_bitCount_0f7a4_17 : decode cJ6_bitCount_0f7a4 17 = .ok (.iushr, 1) := by decide +kernel
theorem dJ6_bitCount_0f7a4_18 : decode cJ6_bitCount_0f7a4 18 = .ok (.ldc_w 266, 3) := by decide +kernel
theorem dJ6_bitCount_0f7a4_21 : decode cJ6_bitCount_0f7a4 21 = .ok (.iand, 1) := by decide +kernel
theorem dJ6_bitCount_0f7a4_22 : decode cJ6_bitCount_0f7a4 22 = .ok (.iadd, 1) := by decide +kernel
theorem dJ6_bitCount_0f7a4_23 : decode cJ6_bitCount_0f7a4 23 = .ok (.istore_n 0, 1) := by decide +kernel
theorem dJ6_bitCount_0f7a4_24 : decode cJ6_bitCount_0f7a4 24 = .ok (.iload_n 0, 1) := by decide +kernel
theorem dJ6_bitCount_0f7a4_25 : decode cJ6_bitCount_0f7a4 25 = .ok (.iload_n 0, 1) := by decide +kernel
theorem dJ6_bitCount_0f7a4_26 : decode cJ6_bitCount_0f7a4 26 = .ok (.iconst 4, 1) := by decide +kernel
theorem dJ6_bitCount_0f7a4_27 : decode cJ6_bitCount_0f7a4 27 = .ok (.iushr, 1) := by decide +kernel
theorem dJ6_bitCount_0f7a4_28 : decode cJ6_bitCount_0f7a4 28 = .ok (.iadd, 1) := by decide +kernel
theorem dJ6_bitCount_0f7a4_29 : decode cJ6_bitCount_0f7a4 29 = .ok (.ldc_w 267, 3) := by decide +kernel
theorem dJ6_bitCount_0f7a4_32 : decode cJ6_bitCount_0f7a4 32 = .ok (.iand, 1) := by decide +kernel
theorem dJ6_bitCount_0f7a4_33 : decode cJ6_bitCount_0f7a4 33 = .ok (.istore_n 0, 1) := by decide +kernel
theorem dJ6_bitCount_0f7a4_34 : decode cJ6_bitCount_0f7a4 34 = .ok (.iload_n 0, 1) := by decide +kernel
theorem dJ6_bitCount_0f7a4_35 : decode cJ6_bitCount_0f7a4 35 = .ok (.iload_n 0, 1) := by decide +kernel
theorem dJ6_bitCount_0f7a4_36 : decode cJ6_bitCount_0f7a4 36 = .ok (.bipush 8, 2) := by decide +kernel
theorem dJ6_bitCount_0f7a4_38 : decode cJ6_bitCount_0f7a4 38 = .ok (.iushr, 1) := by decide +kernel
theorem dJ6_bitCount_0f7a4_39 : decode cJ6_bitCount_0f7a4 39 = .ok (.iadd, 1) := by decide +kernel
theorem dJ6_bitCount_0f7a4_40 : decode cJ6_bitCount_0f7a4 40 = .ok (.istore_n 0, 1) := by decide +kernel
theorem dJ6_bitCount_0f7a4_41 : decode cJ6_bitCount_0f7a4 41 = .ok (.iload_n 0, 1) := by decide +kernel
theorem dJ6_bitCount_0f7a4_42 : decode cJ6_bitCount_0f7a4 42 = .ok (.iload_n 0, 1) := by decide +kernel
theorem dJ6_bitCount_0f7a4_43 : decode cJ6_bitCount_0f7a4 43 = .ok (.bipush 16, 2) := by decide +kernel
theorem dJ6_bitCount_0f7a4_45 : decode cJ6_bitCount_0f7a4 45 = .ok (.iushr, 1) := by decide +kernel
theorem dJ6_bitCount_0f7a4_46 : decode cJ6_bitCount_0f7a4 46 = .ok (.iadd, 1) := by decide +kernel
theorem dJ6_bitCount_0f7a4_47 : decode cJ6_bitCount_0f7a4 47 = .ok (.istore_n 0, 1) := by decide +kernel
theorem dJ6_bitCount_0f7a4_48 : decode cJ6_bitCount_0f7a4 48 = .ok (.iload_n 0, 1) := by decide +kernel
theorem dJ6_bitCount_0f7a4_49 : decode cJ6_bitCount_0f7a4 49 = .ok (.bipush 63, 2) := by decide +kernel
theorem dJ6_bitCount_0f7a4_51 : decode cJ6_bitCount_0f7a4 51 = .ok (.iand, 1) := by decide +kernel
theorem dJ6_bitCount_0f7a4_52 : decode cJ6_bitCount_0f7a4 52 = .ok (.ireturn, 1) := by decide +kernel
theorem dJ9_abs_0f7a4_0 : decode cJ9_abs_0f7a4 0 = .ok (.iload_n 0, 1) := by decide +kernel
theorem dJ9_abs_0f7a4_1 : decode cJ9_abs_0f7a4 1 = .ok (.ifCond .ge 8, 3) := by decide +kernel
theorem dJ9_abs_0f7a4_4 : decode cJ9_abs_0f7a4 4 = .ok (.iload_n 0, 1) := by decide +kernel
theorem dJ9_abs_0f7a4_5 : decode cJ9_abs_0f7a4 5 = .ok (.ineg, 1) := by decide +kernel
theorem dJ9_abs_0f7a4_6 : decode cJ9_abs_0f7a4 6 = .ok (.goto 4, 3) := by decide +kernel
theorem dJ9_abs_0f7a4_9 : decode cJ9_abs_0f7a4 9 = .ok (.iload_n 0, 1) := by decide +kernel
theorem dJ9_abs_0f7a4_10 : decode cJ9_abs_0f7a4 10 = .ok (.ireturn, 1) := by decide +kernel
theorem dJ9_max_7cf53_0 : decode cJ9_max_7cf53 0 = .ok (.iload_n 0, 1) := by decide +kernel
theorem dJ9_max_7cf53_1 : decode cJ9_max_7cf53 1 = .ok (.iload_n 1, 1) := by decide +kernel
theorem dJ9_max_7cf53_2 : decode cJ9_max_7cf53 2 = .ok (.if_icmp .lt 7, 3) := by decide +kernel
theorem dJ9_max_7cf53_5 : decode cJ9_max_7cf53 5 = .ok (.iload_n 0, 1) := by decide +kernel
theorem dJ9_max_7cf53_6 : decode cJ9_max_7cf53 6 = .ok (.goto 4, 3) := by decide +kernel
theorem dJ9_max_7cf53_9 : decode cJ9_max_7cf53 9 = .ok (.iload_n 1, 1) := by decide +kernel
theorem dJ9_max_7cf53_10 : decode cJ9_max_7cf53 10 = .ok (.ireturn, 1) := by decide +kernel
theorem dJ9_min_7cf53_0 : decode cJ9_min_7cf53 0 = .ok (.iload_n 0, 1) := by decide +kernel
theorem dJ9_min_7cf53_1 : decode cJ9_min_7cf53 1 = .ok (.iload_n 1, 1) := by decide +kernel
theorem dJ9_min_7cf53_2 : decode cJ9_min_7cf53 2 = .ok (.if_icmp .gt 7, 3) := by decide +kernel
theorem dJ9_min_7cf53_5 : decode cJ9_min_7cf53 5 = .ok (.iload_n 0, 1) := by decide +kernel
theorem dJ9_min_7cf53_6 : decode cJ9_min_7cf53 6 = .ok (.goto 4, 3) := by decide +kernel
theorem dJ9_min_7cf53_9 : decode cJ9_min_7cf53 9 = .ok (.iload_n 1, 1) := by decide +kernel
theorem dJ9_min_7cf53_10 : decode cJ9_min_7cf53 10 = .ok (.ireturn, 1) := by decide +kernel
theorem dJ0_length_8abf5_0 : decode cJ0_length_8abf5 0 = .ok (.aload_n 0, 1) := by decide +kernel
theorem dJ0_length_8abf5_1 : decode cJ0_length_8abf5 1 = .ok (.getfield 9, 3) := by decide +kernel
theorem dJ0_length_8abf5_4 : decode cJ0_length_8abf5 4 = .ok (.arraylength, 1) := by decide +kernel
theorem dJ0_length_8abf5_5 : decode cJ0_length_8abf5 5 = .ok (.aload_n 0, 1) := by decide +kernel
theorem dJ0_length_8abf5_6 : decode cJ0_length_8abf5 6 = .ok (.invokevirtual 335, 3) := by decide +kernel
theorem dJ0_length_8abf5_9 : decode cJ0_length_8abf5 9 = .ok (.ishr, 1) := by decide +kernel
theorem dJ0_length_8abf5_10 : decode cJ0_length_8abf5 10 = .ok (.ireturn, 1) := by decide +kernel
theorem dJ0_indexOf_0f7a4_0 : decode cJ0_indexOf_0f7a4 0 = .ok (.aload_n 0, 1) := by decide +kernel
theorem dJ0_indexOf_0f7a4_1 : decode cJ0_indexOf_0f7a4 1 = .ok (.iload_n 1, 1) := by decide +kernel
theorem dJ0_indexOf_0f7a4_2 : decode cJ0_indexOf_0f7a4 2 = .ok (.iconst 0, 1) := by decide +kernel
theorem dJ0_indexOf_0f7a4_3 : decode cJ0_indexOf_0f7a4 3 = .ok (.invokevirtual 633, 3) := by decide +kernel
theorem dJ0_indexOf_0f7a4_6 : decode cJ0_indexOf_0f7a4 6 = .ok (.ireturn, 1) := by decide +kernel
theorem dJ0_indexOf_7cf53_0 : decode cJ0_indexOf_7cf53 0 = .ok (.aload_n 0, 1) := by decide +kernel
theorem dJ0_indexOf_7cf53_1 : decode cJ0_indexOf_7cf53 1 = .ok (.invokevirtual 492, 3) := by decide +kernel
theorem dJ0_indexOf_7cf53_4 : decode cJ0_indexOf_7cf53 4 = .ok (.ifCond .eq 19, 3) := by decide +kernel
theorem dJ0_indexOf_7cf53_7 : decode cJ0_indexOf_7cf53 7 = .ok (.aload_n 0, 1) := by decide +kernel
theorem dJ0_indexOf_7cf53_8 : decode cJ0_indexOf_7cf53 8 = .ok (.getfield 9, 3) := by decide +kernel
theorem dJ0_indexOf_7cf53_11 : decode cJ0_indexOf_7cf53 11 = .ok (.iload_n 1, 1) := by decide +kernel
theorem dJ0_indexOf_7cf53_12 : decode cJ0_indexOf_7cf53 12 = .ok (.iload_n 2, 1) := by decide +kernel
theorem dJ0_indexOf_7cf53_13 : decode cJ0_indexOf_7cf53 13 = .ok (.aload_n 0, 1) := by decide +kernel
theorem dJ0_indexOf_7cf53_14 : decode cJ0_indexOf_7cf53 14 = .ok (.invokevirtual 505, 3) := by decide +kernel
theorem dJ0_indexOf_7cf53_17 : decode cJ0_indexOf_7cf53 17 = .ok (.invokestatic 637, 3) := by decide +kernel
theorem dJ0_indexOf_7cf53_20 : decode cJ0_indexOf_7cf53 20 = .ok (.goto 16, 3) := by decide +kernel
theorem dJ0_indexOf_7cf53_23 : decode cJ0_indexOf_7cf53 23 = .ok (.aload_n 0, 1) := by decide +kernel
theorem dJ0_indexOf_7cf53_24 : decode cJ0_indexOf_7cf53 24 = .ok (.getfield 9, 3) := by decide +kernel
theorem dJ0_indexOf_7cf53_27 : decode cJ0_indexOf_7cf53 27 = .ok (.iload_n 1, 1) := by decide +kernel
theorem dJ0_indexOf_7cf53_28 : decode cJ0_indexOf_7cf53 28 = .ok (.iload_n 2, 1) := by decide +kernel
theorem dJ0_indexOf_7cf53_29 : decode cJ0_indexOf_7cf53 29 = .ok (.aload_n 0, 1) := by decide +kernel
theorem dJ0_indexOf_7cf53_30 : decode cJ0_indexOf_7cf53 30 = .ok (.invokevirtual 505, 3) := by decide +kernel
theorem dJ0_indexOf_7cf53_33 : decode cJ0_indexOf_7cf53 33 = .ok (.invokestatic 640, 3) := by decide +kernel
theorem dJ0_indexOf_7cf53_36 : decode cJ0_indexOf_7cf53 36 = .ok (.ireturn, 1) := by decide +kernel
theorem dJ0_coder_7d493_0 : decode cJ0_coder_7d493 0 = .ok (.getstatic 38, 3) := by decide +kernel
theorem dJ0_coder_7d493_3 : decode cJ0_coder_7d493 3 = .ok (.ifCond .eq 10, 3) := by decide +kernel
theorem dJ0_coder_7d493_6 : decode cJ0_coder_7d493 6 = .ok (.aload_n 0, 1) := by decide +kernel
theorem dJ0_coder_7d493_7 : decode cJ0_coder_7d493 7 = .ok (.getfield 15, 3) := by decide +kernel
theorem dJ0_coder_7d493_10 : decode cJ0_coder_7d493 10 = .ok (.goto 4, 3) := by decide +kernel
theorem dJ0_coder_7d493_13 : decode cJ0_coder_7d493 13 = .ok (.iconst 1, 1) := by decide +kernel
theorem dJ0_coder_7d493_14 : decode cJ0_coder_7d493 14 = .ok (.ireturn, 1) := by decide +kernel
theorem dJ0_isLatin1_aae02_0 : decode cJ0_isLatin1_aae02 0 = .ok (.getstatic 38, 3) := by decide +kernel
theorem dJ0_isLatin1_aae02_3 : decode cJ0_isLatin1_aae02 3 = .ok (.ifCond .eq 14, 3) := by decide +kernel
theorem dJ0_isLatin1_aae02_6 : decode cJ0_isLatin1_aae02 6 = .ok (.aload_n 0, 1) := by decide +kernel
theorem dJ0_isLatin1_aae02_7 : decode cJ0_isLatin1_aae02 7 = .ok (.getfield 15, 3) := by decide +kernel
theorem dJ0_isLatin1_aae02_10 : decode cJ0_isLatin1_aae02 10 = .ok (.ifCond .ne 7, 3) := by decide +kernel
theorem dJ0_isLatin1_aae02_13 : decode cJ0_isLatin1_aae02 13 = .ok (.iconst 1, 1) := by decide +kernel
theorem dJ0_isLatin1_aae02_14 : decode cJ0_isLatin1_aae02 14 = .ok (.goto 4, 3) := by decide +kernel
theorem dJ0_isLatin1_aae02_17 : decode cJ0_isLatin1_aae02 17 = .ok (.iconst 0, 1) := by decide +kernel
theorem dJ0_isLatin1_aae02_18 : decode cJ0_isLatin1_aae02 18 = .ok (.ireturn, 1) := by decide +kernel
theorem dJ0_checkBoundsBeginEnd_23922_0 : decode cJ0_checkBoundsBeginEnd_23922 0 = .ok (.iload_n 0, 1) := by decide +kernel
theorem dJ0_checkBoundsBeginEnd_23922_1 : decode cJ0_checkBoundsBeginEnd_23922 1 = .ok (.iload_n 1, 1) := by decide +kernel
theorem dJ0_checkBoundsBeginEnd_23922_2 : decode cJ0_checkBoundsBeginEnd_23922 2 = .ok (.iload_n 2, 1) := by decide +kernel
theorem dJ0_checkBoundsBeginEnd_23922_3 : decode cJ0_checkBoundsBeginEnd_23922 3 = .ok (.getstatic 1053, 3) := by decide +kernel
theorem dJ0_checkBoundsBeginEnd_23922_6 : decode cJ0_checkBoundsBeginEnd_23922 6 = .ok (.invokestatic 1062, 3) := by decide +kernel
theorem dJ0_checkBoundsBeginEnd_23922_9 : decode cJ0_checkBoundsBeginEnd_23922 9 = .ok (.pop, 1) := by decide +kernel
theorem dJ0_checkBoundsBeginEnd_23922_10 : decode cJ0_checkBoundsBeginEnd_23922 10 = .ok (.return_, 1) := by decide +kernel
theorem dJ1_canEncode_9a6ad_0 : decode cJ1_canEncode_9a6ad 0 = .ok (.iload_n 0, 1) := by decide +kernel
theorem dJ1_canEncode_9a6ad_1 : decode cJ1_canEncode_9a6ad 1 = .ok (.ifCond .lt 14, 3) := by decide +kernel
theorem dJ1_canEncode_9a6ad_4 : decode cJ1_canEncode_9a6ad 4 = .ok (.iload_n 0, 1) := by decide +kernel
theorem dJ1_canEncode_9a6ad_5 : decode cJ1_canEncode_9a6ad 5 = .ok (.sipush 255, 3) := by decide +kernel
theorem dJ1_canEncode_9a6ad_8 : decode cJ1_canEncode_9a6ad 8 = .ok (.if_icmp .gt 7, 3) := by decide +kernel
theorem dJ1_canEncode_9a6ad_11 : decode cJ1_canEncode_9a6ad 11 = .ok (.iconst 1, 1) := by decide +kernel
theorem dJ1_canEncode_9a6ad_12 : decode cJ1_canEncode_9a6ad 12 = .ok (.goto 4, 3) := by decide +kernel
theorem dJ1_canEncode_9a6ad_15 : decode cJ1_canEncode_9a6ad 15 = .ok (.iconst 0, 1) := by decide +kernel
theorem dJ1_canEncode_9a6ad_16 : decode cJ1_canEncode_9a6ad 16 = .ok (.ireturn, 1) := by decide +kernel
theorem dJ1_indexOf_4cfef_0 : decode cJ1_indexOf_4cfef 0 = .ok (.iload_n 1, 1) := by decide +kernel
theorem dJ1_indexOf_4cfef_1 : decode cJ1_indexOf_4cfef 1 = .ok (.invokestatic 88, 3) := by decide +kernel
theorem dJ1_indexOf_4cfef_4 : decode cJ1_indexOf_4cfef 4 = .ok (.ifCond .ne 5, 3) := by decide +kernel
theorem dJ1_indexOf_4cfef_7 : decode cJ1_indexOf_4cfef 7 = .ok (.iconst (-1), 1) := by decide +kernel
theorem dJ1_indexOf_4cfef_8 : decode cJ1_indexOf_4cfef 8 = .ok (.ireturn, 1) := by decide +kernel
theorem dJ1_indexOf_4cfef_9 : decode cJ1_indexOf_4cfef 9 = .ok (.iload_n 2, 1) := by decide +kernel
theorem dJ1_indexOf_4cfef_10 : decode cJ1_indexOf_4cfef 10 = .ok (.iconst 0, 1) := by decide +kernel
theorem dJ1_indexOf_4cfef_11 : decode cJ1_indexOf_4cfef 11 = .ok (.invokestatic 92, 3) := by decide +kernel
theorem dJ1_indexOf_4cfef_14 : decode cJ1_indexOf_4cfef 14 = .ok (.istore_n 2, 1) := by decide +kernel
theorem dJ1_indexOf_4cfef_15 : decode cJ1_indexOf_4cfef 15 = .ok (.iload_n 3, 1) := by decide +kernel
theorem dJ1_indexOf_4cfef_16 : decode cJ1_indexOf_4cfef 16 = .ok (.aload_n 0, 1) := by decide +kernel
theorem dJ1_indexOf_4cfef_17 : decode cJ1_indexOf_4cfef 17 = .ok (.arraylength, 1) := by decide +kernel
theorem dJ1_indexOf_4cfef_18 : decode cJ1_indexOf_4cfef 18 = .ok (.invokestatic 38, 3) := by decide +kernel
theorem dJ1_indexOf_4cfef_21 : decode cJ1_indexOf_4cfef 21 = .ok (.istore_n 3, 1) := by decide +kernel
theorem dJ1_indexOf_4cfef_22 : decode cJ1_indexOf_4cfef 22 = .ok (.iload_n 2, 1) := by decide +kernel
theorem dJ1_indexOf_4cfef_23 : decode cJ1_indexOf_4cfef 23 = .ok (.iload_n 3, 1) := by decide +kernel
theorem dJ1_indexOf_4cfef_24 : decode cJ1_indexOf_4cfef 24 = .ok (.if_icmp .lt 5, 3) := by decide +kernel
theorem dJ1_indexOf_4cfef_27 : decode cJ1_indexOf_4cfef 27 = .ok (.iconst (-1), 1) := by decide +kernel
theorem dJ1_indexOf_4cfef_28 : decode cJ1_indexOf_4cfef 28 = .ok (.ireturn, 1) := by decide +kernel
theorem dJ1_indexOf_4cfef_29 : decode cJ1_indexOf_4cfef 29 = .ok (.aload_n 0, 1) := by decide +kernel
theorem dJ1_indexOf_4cfef_30 : decode cJ1_indexOf_4cfef 30 = .ok (.iload_n 1, 1) := by decide +kernel
theorem dJ1_indexOf_4cfef_31 : decode cJ1_indexOf_4cfef 31 = .ok (.iload_n 2, 1) := by decide +kernel
theorem dJ1_indexOf_4cfef_32 : decode cJ1_indexOf_4cfef 32 = .ok (.iload_n 3, 1) := by decide +kernel
theorem dJ1_indexOf_4cfef_33 : decode cJ1_indexOf_4cfef 33 = .ok (.invokestatic 95, 3) := by decide +kernel
theorem dJ1_indexOf_4cfef_36 : decode cJ1_indexOf_4cfef 36 = .ok (.ireturn, 1) := by decide +kernel
theorem dJ1_indexOfChar_4cfef_0 : decode cJ1_indexOfChar_4cfef 0 = .ok (.iload_n 1, 1) := by decide +kernel
theorem dJ1_indexOfChar_4cfef_1 : decode cJ1_indexOfChar_4cfef 1 = .ok (.i2b, 1) := by decide +kernel
theorem dJ1_indexOfChar_4cfef_2 : decode cJ1_indexOfChar_4cfef 2 = .ok (.istore 4, 2) := by decide +kernel
theorem dJ1_indexOfChar_4cfef_4 : decode cJ1_indexOfChar_4cfef 4 = .ok (.iload_n 2, 1) := by decide +kernel
theorem dJ1_indexOfChar_4cfef_5 : decode cJ1_indexOfChar_4cfef 5 = .ok (.istore 5, 2) := by decide +kernel
theorem dJ1_indexOfChar_4cfef_7 : decode cJ1_indexOfChar_4cfef 7 = .ok (.iload 5, 2) := by decide +kernel
theorem dJ1_indexOfChar_4cfef_9 : decode cJ1_indexOfChar_4cfef 9 = .ok (.iload_n 3, 1) := by decide +kernel
theorem dJ1_indexOfChar_4cfef_10 : decode cJ1_indexOfChar_4cfef 10 = .ok (.if_icmp .ge 21, 3) := by decide +kernel
theorem dJ1_indexOfChar_4cfef_13 : decode cJ1_indexOfChar_4cfef 13 = .ok (.aload_n 0, 1) := by decide +kernel
theorem dJ1_indexOfChar_4cfef_14 : decode cJ1_indexOfChar_4cfef 14 = .ok (.iload 5, 2) := by decide +kernel
theorem dJ1_indexOfChar_4cfef_16 : decode cJ1_indexOfChar_4cfef 16 = .ok (.baload, 1) := by decide +kernel
theorem dJ1_indexOfChar_4cfef_17 : decode cJ1_indexOfChar_4cfef 17 = .ok (.iload 4, 2) := by decide +kernel
theorem dJ1_indexOfChar_4cfef_19 : decode cJ1_indexOfChar_4cfef 19 = .ok (.if_icmp .ne 6, 3) := by decide +kernel
theorem dJ1_indexOfChar_4cfef_22 : decode cJ1_indexOfChar_4cfef 22 = .ok (.iload 5, 2) := by decide +kernel
theorem dJ1_indexOfChar_4cfef_24 : decode cJ1_indexOfChar_4cfef 24 = .ok (.ireturn, 1) := by decide +kernel
theorem dJ1_indexOfChar_4cfef_25 : decode cJ1_indexOfChar_4cfef 25 = .ok (.iinc 5 1, 3) := by decide +kernel
theorem dJ1_indexOfChar_4cfef_28 : decode cJ1_indexOfChar_4cfef 28 = .ok (.goto (-21), 3) := by decide +kernel
theorem dJ1_indexOfChar_4cfef_31 : decode cJ1_indexOfChar_4cfef 31 = .ok (.iconst (-1), 1) := by decide +kernel
theorem dJ1_indexOfChar_4cfef_32 : decode cJ1_indexOfChar_4cfef 32 = .ok (.ireturn, 1) := by decide +kernel
theorem dJ7_fill_53178_0 : decode cJ7_fill_53178 0 = .ok (.iconst 0, 1) := by decide +kernel
theorem dJ7_fill_53178_1 : decode cJ7_fill_53178 1 = .ok (.istore_n 2, 1) := by decide +kernel
theorem dJ7_fill_53178_2 : decode cJ7_fill_53178 2 = .ok (.aload_n 0, 1) := by decide +kernel
theorem dJ7_fill_53178_3 : decode cJ7_fill_53178 3 = .ok (.arraylength, 1) := by decide +kernel
theorem dJ7_fill_53178_4 : decode cJ7_fill_53178 4 = .ok (.istore_n 3, 1) := by decide +kernel
theorem dJ7_fill_53178_5 : decode cJ7_fill_53178 5 = .ok (.iload_n 2, 1) := by decide +kernel
theorem dJ7_fill_53178_6 : decode cJ7_fill_53178 6 = .ok (.iload_n 3, 1) := by decide +kernel
theorem dJ7_fill_53178_7 : decode cJ7_fill_53178 7 = .ok (.if_icmp .ge 13, 3) := by decide +kernel
theorem dJ7_fill_53178_10 : decode cJ7_fill_53178 10 = .ok (.aload_n 0, 1) := by decide +kernel
theorem dJ7_fill_53178_11 : decode cJ7_fill_53178 11 = .ok (.iload_n 2, 1) := by decide +kernel
theorem dJ7_fill_53178_12 : decode cJ7_fill_53178 12 = .ok (.iload_n 1, 1) := by decide +kernel
theorem dJ7_fill_53178_13 : decode cJ7_fill_53178 13 = .ok (.iastore, 1) := by decide +kernel
theorem dJ7_fill_53178_14 : decode cJ7_fill_53178 14 = .ok (.iinc 2 1, 3) := by decide +kernel
theorem dJ7_fill_53178_17 : decode cJ7_fill_53178 17 = .ok (.goto (-12), 3) := by decide +kernel
theorem dJ7_fill_53178_20 : decode cJ7_fill_53178 20 = .ok (.return_, 1) := by decide +kernel
