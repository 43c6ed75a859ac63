theorem dX11_init_0 : decode cX11_init 0 = .ok (.aload_n 0, 1) := by decide +kernel
theorem dX11_init_1 : decode cX11_init 1 = .ok (.invokespecial 1, 3) := by decide +kernel
theorem dX11_init_4 : decode cX11_init 4 = .ok (.aload_n 0, 1) := by decide +kernel
theorem dX11_init_5 : decode cX11_init 5 = .ok (.new 7, 3) := by decide +kernel
theorem dX11_init_8 : decode cX11_init 8 = .ok (.dup, 1) := by decide +kernel
theorem dX11_init_9 : decode cX11_init 9 = .ok (.invokespecial 9, 3) := by decide +kernel
theorem dX11_init_12 : decode cX11_init 12 = .ok (.putfield 10, 3) := by decide +kernel
theorem dX11_init_15 : decode cX11_init 15 = .ok (.aload_n 0, 1) := by decide +kernel
theorem dX11_init_16 : decode cX11_init 16 = .ok (.new 16, 3) := by decide +kernel
theorem dX11_init_19 : decode cX11_init 19 = .ok (.dup, 1) := by decide +kernel
theorem dX11_init_20 : decode cX11_init 20 = .ok (.aload_n 0, 1) := by decide +kernel
theorem dX11_init_21 : decode cX11_init 21 = .ok (.getfield 10, 3) := by decide +kernel
theorem dX11_init_24 : decode cX11_init 24 = .ok (.invokespecial 18, 3) := by decide +kernel
theorem dX11_init_27 : decode cX11_init 27 = .ok (.putfield 21, 3) := by decide +kernel
theorem dX11_init_30 : decode cX11_init 30 = .ok (.aload_n 0, 1) := by decide +kernel
theorem dX11_init_31 : decode cX11_init 31 = .ok (.new 25, 3) := by decide +kernel
theorem dX11_init_34 : decode cX11_init 34 = .ok (.dup, 1) := by decide +kernel
theorem dX11_init_35 : decode cX11_init 35 = .ok (.aload_n 0, 1) := by decide +kernel
theorem dX11_init_36 : decode cX11_init 36 = .ok (.getfield 10, 3) := by decide +kernel
theorem dX11_init_39 : decode cX11_init 39 = .ok (.invokespecial 27, 3) := by decide +kernel
theorem dX11_init_42 : decode cX11_init 42 = .ok (.putfield 28, 3) := by decide +kernel
theorem dX11_init_45 : decode cX11_init 45 = .ok (.aload_n 0, 1) := by decide +kernel
theorem dX11_init_46 : decode cX11_init 46 = .ok (.new 32, 3) := by decide +kernel
theorem dX11_init_49 : decode cX11_init 49 = .ok (.dup, 1) := by decide +kernel
theorem dX11_init_50 : decode cX11_init 50 = .ok (.invokespecial 34, 3) := by decide +kernel
theorem dX11_init_53 : decode cX11_init 53 = .ok (.putfield 35, 3) := by decide +kernel
theorem dX11_init_56 : decode cX11_init 56 = .ok (.aload_n 0, 1) := by decide +kernel
theorem dX11_init_57 : decode cX11_init 57 = .ok (.new 39, 3) := by decide +kernel
theorem dX11_init_60 : decode cX11_init 60 = .ok (.dup, 1) := by decide +kernel
theorem dX11_init_61 : decode cX11_init 61 = .ok (.invokespecial 41, 3) := by decide +kernel
theorem dX11_init_64 : decode cX11_init 64 = .ok (.putfield 42, 3) := by decide +kernel
theorem dX11_init_67 : decode cX11_init 67 = .ok (.aload_n 0, 1) := by decide +kernel
theorem dX11_init_68 : decode cX11_init 68 = .ok (.new 39, 3) := by decide +kernel
theorem dX11_init_71 : decode cX11_init 71 = .ok (.dup, 1) := by decide +kernel
theorem dX11_init_72 : decode cX11_init 72 = .ok (.invokespecial 41, 3) := by decide +kernel
theorem dX11_init_75 : decode cX11_init 75 = .ok (.putfield 46, 3) := by decide +kernel
theorem dX11_init_78 : decode cX11_init 78 = .ok (.aload_n 0, 1) := by decide +kernel
theorem dX11_init_79 : decode cX11_init 79 = .ok (.new 49, 3) := by decide +kernel
theorem dX11_init_82 : decode cX11_init 82 = .ok (.dup, 1) := by decide +kernel
theorem dX11_init_83 : decode cX11_init 83 = .ok (.invokespecial 51, 3) := by decide +kernel
theorem dX11_init_86 : decode cX11_init 86 = .ok (.putfield 52, 3) := by decide +kernel
theorem dX11_init_89 : decode cX11_init 89 = .ok (.aload_n 0, 1) := by decide +kernel
theorem dX11_init_90 : decode cX11_init 90 = .ok (.new 56, 3) := by decide +kernel
theorem dX11_init_93 : decode cX11_init 93 = .ok (.dup, 1) := by decide +kernel
theorem dX11_init_94 : decode cX11_init 94 = .ok (.aload_n 0, 1) := by decide +kernel
theorem dX11_init_95 : decode cX11_init 95 = .ok (.getfield 10, 3) := by decide +kernel
theorem dX11_init_98 : decode cX11_init 98 = .ok (.aload_n 0, 1) := by decide +kernel
theorem dX11_init_99 : decode cX11_init 99 = .ok (.getfield 52, 3) := by decide +kernel
theorem dX11_init_102 : decode cX11_init 102 = .ok (.invokespecial 58, 3) := by decide +kernel
theorem dX11_init_105 : decode cX11_init 105 = .ok (.putfield 61, 3) := by decide +kernel
theorem dX11_init_108 : decode cX11_init 108 = .ok (.aload_n 0, 1) := by decide +kernel
theorem dX11_init_109 : decode cX11_init 109 = .ok (.new 65, 3) := by decide +kernel
theorem dX11_init_112 : decode cX11_init 112 = .ok (.dup, 1) := by decide +kernel
theorem dX11_init_113 : decode cX11_init 113 = .ok (.aload_n 0, 1) := by decide +kernel
theorem dX11_init_114 : decode cX11_init 114 = .ok (.getfield 28, 3) := by decide +kernel
theorem dX11_init_117 : decode cX11_init 117 = .ok (.invokespecial 67, 3) := by decide +kernel
theorem dX11_init_120 : decode cX11_init 120 = .ok (.putfield 70, 3) := by decide +kernel
theorem dX11_init_123 : decode cX11_init 123 = .ok (.aload_n 0, 1) := by decide +kernel
theorem dX11_init_124 : decode cX11_init 124 = .ok (.new 74, 3) := by decide +kernel
theorem dX11_init_127 : decode cX11_init 127 = .ok (.dup, 1) := by decide +kernel
theorem dX11_init_128 : decode cX11_init 128 = .ok (.aload_n 0, 1) := by decide +kernel
theorem dX11_init_129 : decode cX11_init 129 = .ok (.getfield 21, 3) := by decide +kernel
theorem dX11_init_132 : decode cX11_init 132 = .ok (.invokespecial 76, 3) := by decide +kernel
theorem dX11_init_135 : decode cX11_init 135 = .ok (.putfield 79, 3) := by decide +kernel
theorem dX11_init_138 : decode cX11_init 138 = .ok (.aload_n 0, 1) := by decide +kernel
theorem dX11_init_139 : decode cX11_init 139 = .ok (.new 83, 3) := by decide +kernel
theorem dX11_init_142 : decode cX11_init 142 = .ok (.dup, 1) := by decide +kernel
theorem dX11_init_143 : decode cX11_init 143 = .ok (.invokespecial 85, 3) := by decide +kernel
theorem dX11_init_146 : decode cX11_init 146 = .ok (.putfield 86, 3) := by decide +kernel
theorem dX11_init_149 : decode cX11_init 149 = .ok (.return_, 1) := by decide +kernel
theorem dX11_cell_0 : decode cX11_cell 0 = .ok (.iload_n 1, 1) := by decide +kernel
theorem dX11_cell_1 : decode cX11_cell 1 = .ok (.iconst (-1), 1) := by decide +kernel
theorem dX11_cell_2 : decode cX11_cell 2 = .ok (.if_icmp .eq 10, 3) := by decide +kernel
theorem dX11_cell_5 : decode cX11_cell 5 = .ok (.iload_n 1, 1) := by decide +kernel
theorem dX11_cell_6 : decode cX11_cell 6 = .ok (.invokestatic 90, 3) := by decide +kernel
theorem dX11_cell_9 : decode cX11_cell 9 = .ok (.ifCond .eq 13, 3) := by decide +kernel
theorem dX11_cell_12 : decode cX11_cell 12 = .ok (.iload_n 2, 1) := by decide +kernel
theorem dX11_cell_13 : decode cX11_cell 13 = .ok (.sipush 128, 3) := by decide +kernel
theorem dX11_cell_16 : decode cX11_cell 16 = .ok (.invokestatic 94, 3) := by decide +kernel
theorem dX11_cell_19 : decode cX11_cell 19 = .ok (.ifCond .ne 6, 3) := by decide +kernel
theorem dX11_cell_22 : decode cX11_cell 22 = .ok (.bipush (-101), 2) := by decide +kernel
theorem dX11_cell_24 : decode cX11_cell 24 = .ok (.ireturn, 1) := by decide +kernel
theorem dX11_cell_25 : decode cX11_cell 25 = .ok (.aload_n 0, 1) := by decide +kernel
theorem dX11_cell_26 : decode cX11_cell 26 = .ok (.getfield 21, 3) := by decide +kernel
theorem dX11_cell_29 : decode cX11_cell 29 = .ok (.iload_n 2, 1) := by decide +kernel
theorem dX11_cell_30 : decode cX11_cell 30 = .ok (.invokevirtual 98, 3) := by decide +kernel
theorem dX11_cell_33 : decode cX11_cell 33 = .ok (.ifCond .eq 6, 3) := by decide +kernel
theorem dX11_cell_36 : decode cX11_cell 36 = .ok (.bipush (-103), 2) := by decide +kernel
theorem dX11_cell_38 : decode cX11_cell 38 = .ok (.ireturn, 1) := by decide +kernel
theorem dX11_cell_39 : decode cX11_cell 39 = .ok (.aload_n 0, 1) := by decide +kernel
theorem dX11_cell_40 : decode cX11_cell 40 = .ok (.getfield 10, 3) := by decide +kernel
theorem dX11_cell_43 : decode cX11_cell 43 = .ok (.iload_n 2, 1) := by decide +kernel
theorem dX11_cell_44 : decode cX11_cell 44 = .ok (.invokevirtual 101, 3) := by decide +kernel
theorem dX11_cell_47 : decode cX11_cell 47 = .ok (.istore_n 3, 1) := by decide +kernel
theorem dX11_cell_48 : decode cX11_cell 48 = .ok (.aload_n 0, 1) := by decide +kernel
theorem dX11_cell_49 : decode cX11_cell 49 = .ok (.getfield 10, 3) := by decide +kernel
theorem dX11_cell_52 : decode cX11_cell 52 = .ok (.iload_n 2, 1) := by decide +kernel
theorem dX11_cell_53 : decode cX11_cell 53 = .ok (.iload_n 1, 1) := by decide +kernel
theorem dX11_cell_54 : decode cX11_cell 54 = .ok (.invokevirtual 105, 3) := by decide +kernel
theorem dX11_cell_57 : decode cX11_cell 57 = .ok (.iload_n 3, 1) := by decide +kernel
theorem dX11_cell_58 : decode cX11_cell 58 = .ok (.ireturn, 1) := by decide +kernel
theorem dX11_run_0 : decode cX11_run 0 = .ok (.iload_n 1, 1) := by decide +kernel
theorem dX11_run_1 : decode cX11_run 1 = .ok (.invokestatic 90, 3) := by decide +kernel
theorem dX11_run_4 : decode cX11_run 4 = .ok (.ifCond .eq 21, 3) := by decide +kernel
theorem dX11_run_7 : decode cX11_run 7 = .ok (.iload_n 2, 1) := by decide +kernel
theorem dX11_run_8 : decode cX11_run 8 = .ok (.bipush 8, 2) := by decide +kernel
theorem dX11_run_10 : decode cX11_run 10 = .ok (.invokestatic 94, 3) := by decide +kernel
theorem dX11_run_13 : decode cX11_run 13 = .ok (.ifCond .eq 12, 3) := by decide +kernel
theorem dX11_run_16 : decode cX11_run 16 = .ok (.iload_n 3, 1) := by decide +kernel
theorem dX11_run_17 : decode cX11_run 17 = .ok (.bipush 16, 2) := by decide +kernel
theorem dX11_run_19 : decode cX11_run 19 = .ok (.invokestatic 94, 3) := by decide +kernel
theorem dX11_run_22 : decode cX11_run 22 = .ok (.ifCond .ne 6, 3) := by decide +kernel
theorem dX11_run_25 : decode cX11_run 25 = .ok (.bipush (-101), 2) := by decide +kernel
theorem dX11_run_27 : decode cX11_run 27 = .ok (.ireturn, 1) := by decide +kernel
theorem dX11_run_28 : decode cX11_run 28 = .ok (.iload 4, 2) := by decide +kernel
theorem dX11_run_30 : decode cX11_run 30 = .ok (.iconst 1, 1) := by decide +kernel
theorem dX11_run_31 : decode cX11_run 31 = .ok (.if_icmp .lt 10, 3) := by decide +kernel
theorem dX11_run_34 : decode cX11_run 34 = .ok (.iload 4, 2) := by decide +kernel
theorem dX11_run_36 : decode cX11_run 36 = .ok (.bipush 16, 2) := by decide +kernel
theorem dX11_run_38 : decode cX11_run 38 = .ok (.if_icmp .le 6, 3) := by decide +kernel
theorem dX11_run_41 : decode cX11_run 41 = .ok (.bipush (-102), 2) := by decide +kernel
theorem dX11_run_43 : decode cX11_run 43 = .ok (.ireturn, 1) := by decide +kernel
theorem dX11_run_44 : decode cX11_run 44 = .ok (.aload_n 0, 1) := by decide +kernel
theorem dX11_run_45 : decode cX11_run 45 = .ok (.getfield 10, 3) := by decide +kernel
theorem dX11_run_48 : decode cX11_run 48 = .ok (.iload_n 1, 1) := by decide +kernel
theorem dX11_run_49 : decode cX11_run 49 = .ok (.iload_n 2, 1) := by decide +kernel
theorem dX11_run_50 : decode cX11_run 50 = .ok (.iload_n 3, 1) := by decide +kernel
theorem dX11_run_51 : decode cX11_run 51 = .ok (.iload 4, 2) := by decide +kernel
theorem dX11_run_53 : decode cX11_run 53 = .ok (.invokevirtual 109, 3) := by decide +kernel
theorem dX11_run_56 : decode cX11_run 56 = .ok (.ireturn, 1) := by decide +kernel
theorem dX11_land_0 : decode cX11_land 0 = .ok (.iload_n 1, 1) := by decide +kernel
theorem dX11_land_1 : decode cX11_land 1 = .ok (.invokestatic 90, 3) := by decide +kernel
theorem dX11_land_4 : decode cX11_land 4 = .ok (.ifCond .ne 6, 3) := by decide +kernel
theorem dX11_land_7 : decode cX11_land 7 = .ok (.bipush (-101), 2) := by decide +kernel
theorem dX11_land_9 : decode cX11_land 9 = .ok (.ireturn, 1) := by decide +kernel
theorem dX11_land_10 : decode cX11_land 10 = .ok (.iload_n 2, 1) := by decide +kernel
theorem dX11_land_11 : decode cX11_land 11 = .ok (.tableswitch 52 0 2 #[25, 34, 43], 25) := by decide +kernel
theorem dX11_land_36 : decode cX11_land 36 = .ok (.aload_n 0, 1) := by decide +kernel
theorem dX11_land_37 : decode cX11_land 37 = .ok (.getfield 10, 3) := by decide +kernel
theorem dX11_land_40 : decode cX11_land 40 = .ok (.iload_n 1, 1) := by decide +kernel
theorem dX11_land_41 : decode cX11_land 41 = .ok (.invokevirtual 113, 3) := by decide +kernel
theorem dX11_land_44 : decode cX11_land 44 = .ok (.ireturn, 1) := by decide +kernel
theorem dX11_land_45 : decode cX11_land 45 = .ok (.aload_n 0, 1) := by decide +kernel
theorem dX11_land_46 : decode cX11_land 46 = .ok (.getfield 10, 3) := by decide +kernel
theorem dX11_land_49 : decode cX11_land 49 = .ok (.iload_n 1, 1) := by decide +kernel
theorem dX11_land_50 : decode cX11_land 50 = .ok (.invokevirtual 116, 3) := by decide +kernel
theorem dX11_land_53 : decode cX11_land 53 = .ok (.ireturn, 1) := by decide +kernel
theorem dX11_land_54 : decode cX11_land 54 = .ok (.aload_n 0, 1) := by decide +kernel
theorem dX11_land_55 : decode cX11_land 55 = .ok (.getfield 21, 3) := by decide +kernel
theorem dX11_land_58 : decode cX11_land 58 = .ok (.iload_n 1, 1) := by decide +kernel
theorem dX11_land_59 : decode cX11_land 59 = .ok (.invokevirtual 119, 3) := by decide +kernel
theorem dX11_land_62 : decode cX11_land 62 = .ok (.ireturn, 1) := by decide +kernel
theorem dX11_land_63 : decode cX11_land 63 = .ok (.bipush (-102), 2) := by decide +kernel
theorem dX11_land_65 : decode cX11_land 65 = .ok (.ireturn, 1) := by decide +kernel
theorem dX11_mark_0 : decode cX11_mark 0 = .ok (.iload_n 2, 1) := by decide +kernel
theorem dX11_mark_1 : decode cX11_mark 1 = .ok (.sipush 128, 3) := by decide +kernel
theorem dX11_mark_4 : decode cX11_mark 4 = .ok (.invokestatic 94, 3) := by decide +kernel
theorem dX11_mark_7 : decode cX11_mark 7 = .ok (.ifCond .eq 15, 3) := by decide +kernel
theorem dX11_mark_10 : decode cX11_mark 10 = .ok (.aload_n 0, 1) := by decide +kernel
theorem dX11_mark_11 : decode cX11_mark 11 = .ok (.getfield 10, 3) := by decide +kernel
theorem dX11_mark_14 : decode cX11_mark 14 = .ok (.iload_n 2, 1) := by decide +kernel
theorem dX11_mark_15 : decode cX11_mark 15 = .ok (.invokevirtual 101, 3) := by decide +kernel
theorem dX11_mark_18 : decode cX11_mark 18 = .ok (.iconst (-1), 1) := by decide +kernel
theorem dX11_mark_19 : decode cX11_mark 19 = .ok (.if_icmp .ne 6, 3) := by decide +kernel
theorem dX11_mark_22 : decode cX11_mark 22 = .ok (.bipush (-101), 2) := by decide +kernel
theorem dX11_mark_24 : decode cX11_mark 24 = .ok (.ireturn, 1) := by decide +kernel
theorem dX11_mark_25 : decode cX11_mark 25 = .ok (.iload_n 1, 1) := by decide +kernel
theorem dX11_mark_26 : decode cX11_mark 26 = .ok (.bipush 6, 2) := by decide +kernel
theorem dX11_mark_28 : decode cX11_mark 28 = .ok (.invokestatic 94, 3) := by decide +kernel
theorem dX11_mark_31 : decode cX11_mark 31 = .ok (.ifCond .eq 12, 3) := by decide +kernel
theorem dX11_mark_34 : decode cX11_mark 34 = .ok (.iload_n 3, 1) := by decide +kernel
theorem dX11_mark_35 : decode cX11_mark 35 = .ok (.bipush 16, 2) := by decide +kernel
theorem dX11_mark_37 : decode cX11_mark 37 = .ok (.invokestatic 94, 3) := by decide +kernel
theorem dX11_mark_40 : decode cX11_mark 40 = .ok (.ifCond .ne 6, 3) := by decide +kernel
theorem dX11_mark_43 : decode cX11_mark 43 = .ok (.bipush (-102), 2) := by decide +kernel
theorem dX11_mark_45 : decode cX11_mark 45 = .ok (.ireturn, 1) := by decide +kernel
theorem dX11_mark_46 : decode cX11_mark 46 = .ok (.aload_n 0, 1) := by decide +kernel
theorem dX11_mark_47 : decode cX11_mark 47 = .ok (.getfield 21, 3) := by decide +kernel
theorem dX11_mark_50 : decode cX11_mark 50 = .ok (.invokevirtual 122, 3) := by decide +kernel
theorem dX11_mark_53 : decode cX11_mark 53 = .ok (.ifCond .eq 8, 3) := by decide +kernel
theorem dX11_mark_56 : decode cX11_mark 56 = .ok (.bipush (-104), 2) := by decide +kernel
theorem dX11_mark_58 : decode cX11_mark 58 = .ok (.goto 13, 3) := by decide +kernel
theorem dX11_mark_61 : decode cX11_mark 61 = .ok (.aload_n 0, 1) := by decide +kernel
theorem dX11_mark_62 : decode cX11_mark 62 = .ok (.getfield 21, 3) := by decide +kernel
theorem dX11_mark_65 : decode cX11_mark 65 = .ok (.iload_n 1, 1) := by decide +kernel
theorem dX11_mark_66 : decode cX11_mark 66 = .ok (.iload_n 2, 1) := by decide +kernel
theorem dX11_mark_67 : decode cX11_mark 67 = .ok (.iload_n 3, 1) := by decide +kernel
theorem dX11_mark_68 : decode cX11_mark 68 = .ok (.invokevirtual 126, 3) := by decide +kernel
theorem dX11_mark_71 : decode cX11_mark 71 = .ok (.ireturn, 1) := by decide +kernel
theorem dX11_as_0 : decode cX11_as 0 = .ok (.iload_n 1, 1) := by decide +kernel
theorem dX11_as_1 : decode cX11_as 1 = .ok (.aload_n 0, 1) := by decide +kernel
theorem dX11_as_2 : decode cX11_as 2 = .ok (.getfield 21, 3) := by decide +kernel
theorem dX11_as_5 : decode cX11_as 5 = .ok (.invokevirtual 130, 3) := by decide +kernel
theorem dX11_as_8 : decode cX11_as 8 = .ok (.invokestatic 94, 3) := by decide +kernel
theorem dX11_as_11 : decode cX11_as 11 = .ok (.ifCond .ne 6, 3) := by decide +kernel
theorem dX11_as_14 : decode cX11_as 14 = .ok (.bipush (-101), 2) := by decide +kernel
theorem dX11_as_16 : decode cX11_as 16 = .ok (.ireturn, 1) := by decide +kernel
theorem dX11_as_17 : decode cX11_as 17 = .ok (.iload_n 2, 1) := by decide +kernel
theorem dX11_as_18 : decode cX11_as 18 = .ok (.bipush 6, 2) := by decide +kernel
theorem dX11_as_20 : decode cX11_as 20 = .ok (.invokestatic 94, 3) := by decide +kernel
theorem dX11_as_23 : decode cX11_as 23 = .ok (.ifCond .ne 6, 3) := by decide +kernel
theorem dX11_as_26 : decode cX11_as 26 = .ok (.bipush (-102), 2) := by decide +kernel
theorem dX11_as_28 : decode cX11_as 28 = .ok (.ireturn, 1) := by decide +kernel
theorem dX11_as_29 : decode cX11_as 29 = .ok (.aload_n 0, 1) := by decide +kernel
theorem dX11_as_30 : decode cX11_as 30 = .ok (.getfield 21, 3) := by decide +kernel
theorem dX11_as_33 : decode cX11_as 33 = .ok (.iload_n 1, 1) := by decide +kernel
theorem dX11_as_34 : decode cX11_as 34 = .ok (.iload_n 2, 1) := by decide +kernel
theorem dX11_as_35 : decode cX11_as 35 = .ok (.invokevirtual 134, 3) := by decide +kernel
theorem dX11_as_38 : decode cX11_as 38 = .ok (.ifCond .eq 7, 3) := by decide +kernel
theorem dX11_as_41 : decode cX11_as 41 = .ok (.iload_n 1, 1) := by decide +kernel
theorem dX11_as_42 : decode cX11_as 42 = .ok (.goto 4, 3) := by decide +kernel
theorem dX11_as_45 : decode cX11_as 45 = .ok (.iconst (-1), 1) := by decide +kernel
theorem dX11_as_46 : decode cX11_as 46 = .ok (.ireturn, 1) := by decide +kernel
theorem dX11_about_0 : decode cX11_about 0 = .ok (.iload_n 1, 1) := by decide +kernel
theorem dX11_about_1 : decode cX11_about 1 = .ok (.aload_n 0, 1) := by decide +kernel
theorem dX11_about_2 : decode cX11_about 2 = .ok (.getfield 21, 3) := by decide +kernel
theorem dX11_about_5 : decode cX11_about 5 = .ok (.invokevirtual 130, 3) := by decide +kernel
theorem dX11_about_8 : decode cX11_about 8 = .ok (.invokestatic 94, 3) := by decide +kernel
theorem dX11_about_11 : decode cX11_about 11 = .ok (.ifCond .ne 6, 3) := by decide +kernel
theorem dX11_about_14 : decode cX11_about 14 = .ok (.bipush (-101), 2) := by decide +kernel
theorem dX11_about_16 : decode cX11_about 16 = .ok (.ireturn, 1) := by decide +kernel
theorem dX11_about_17 : decode cX11_about 17 = .ok (.iload_n 2, 1) := by decide +kernel
theorem dX11_about_18 : decode cX11_about 18 = .ok (.tableswitch 66 0 3 #[30, 39, 48, 57], 30) := by decide +kernel
theorem dX11_about_48 : decode cX11_about 48 = .ok (.aload_n 0, 1) := by decide +kernel
theorem dX11_about_49 : decode cX11_about 49 = .ok (.getfield 21, 3) := by decide +kernel
theorem dX11_about_52 : decode cX11_about 52 = .ok (.iload_n 1, 1) := by decide +kernel
theorem dX11_about_53 : decode cX11_about 53 = .ok (.invokevirtual 137, 3) := by decide +kernel
theorem dX11_about_56 : decode cX11_about 56 = .ok (.ireturn, 1) := by decide +kernel
theorem dX11_about_57 : decode cX11_about 57 = .ok (.aload_n 0, 1) := by decide +kernel
theorem dX11_about_58 : decode cX11_about 58 = .ok (.getfield 21, 3) := by decide +kernel
theorem dX11_about_61 : decode cX11_about 61 = .ok (.iload_n 1, 1) := by decide +kernel
theorem dX11_about_62 : decode cX11_about 62 = .ok (.invokevirtual 140, 3) := by decide +kernel
theorem dX11_about_65 : decode cX11_about 65 = .ok (.ireturn, 1) := by decide +kernel
theorem dX11_about_66 : decode cX11_about 66 = .ok (.aload_n 0, 1) := by decide +kernel
theorem dX11_about_67 : decode cX11_about 67 = .ok (.getfield 21, 3) := by decide +kernel
theorem dX11_about_70 : decode cX11_about 70 = .ok (.iload_n 1, 1) := by decide +kernel
theorem dX11_about_71 : decode cX11_about 71 = .ok (.invokevirtual 143, 3) := by decide +kernel
theorem dX11_about_74 : decode cX11_about 74 = .ok (.ireturn, 1) := by decide +kernel
theorem dX11_about_75 : decode cX11_about 75 = .ok (.aload_n 0, 1) := by decide +kernel
theorem dX11_about_76 : decode cX11_about 76 = .ok (.getfield 21, 3) := by decide +kernel
theorem dX11_about_79 : decode cX11_about 79 = .ok (.iload_n 1, 1) := by decide +kernel
theorem dX11_about_80 : decode cX11_about 80 = .ok (.invokevirtual 146, 3) := by decide +kernel
theorem dX11_about_83 : decode cX11_about 83 = .ok (.ireturn, 1) := by decide +kernel
theorem dX11_about_84 : decode cX11_about 84 = .ok (.bipush (-102), 2) := by decide +kernel
theorem dX11_about_86 : decode cX11_about 86 = .ok (.ireturn, 1) := by decide +kernel
theorem dX11_goesOn_0 : decode cX11_goesOn 0 = .ok (.iload_n 1, 1) := by decide +kernel
theorem dX11_goesOn_1 : decode cX11_goesOn 1 = .ok (.aload_n 0, 1) := by decide +kernel
theorem dX11_goesOn_2 : decode cX11_goesOn 2 = .ok (.getfield 21, 3) := by decide +kernel
theorem dX11_goesOn_5 : decode cX11_goesOn 5 = .ok (.invokevirtual 130, 3) := by decide +kernel
theorem dX11_goesOn_8 : decode cX11_goesOn 8 = .ok (.invokestatic 94, 3) := by decide +kernel
theorem dX11_goesOn_11 : decode cX11_goesOn 11 = .ok (.ifCond .eq 17, 3) := by decide +kernel
theorem dX11_goesOn_14 : decode cX11_goesOn 14 = .ok (.iload_n 2, 1) := by decide +kernel
theorem dX11_goesOn_15 : decode cX11_goesOn 15 = .ok (.aload_n 0, 1) := by decide +kernel
theorem dX11_goesOn_16 : decode cX11_goesOn 16 = .ok (.getfield 21, 3) := by decide +kernel
theorem dX11_goesOn_19 : decode cX11_goesOn 19 = .ok (.invokevirtual 130, 3) := by decide +kernel
theorem dX11_goesOn_22 : decode cX11_goesOn 22 = .ok (.invokestatic 94, 3) := by decide +kernel
theorem dX11_goesOn_25 : decode cX11_goesOn 25 = .ok (.ifCond .ne 6, 3) := by decide +kernel
theorem dX11_goesOn_28 : decode cX11_goesOn 28 = .ok (.bipush (-101), 2) := by decide +kernel
theorem dX11_goesOn_30 : decode cX11_goesOn 30 = .ok (.ireturn, 1) := by decide +kernel
theorem dX11_goesOn_31 : decode cX11_goesOn 31 = .ok (.aload_n 0, 1) := by decide +kernel
theorem dX11_goesOn_32 : decode cX11_goesOn 32 = .ok (.getfield 21, 3) := by decide +kernel
theorem dX11_goesOn_35 : decode cX11_goesOn 35 = .ok (.iload_n 1, 1) := by decide +kernel
theorem dX11_goesOn_36 : decode cX11_goesOn 36 = .ok (.iload_n 2, 1) := by decide +kernel
theorem dX11_goesOn_37 : decode cX11_goesOn 37 = .ok (.invokevirtual 149, 3) := by decide +kernel
theorem dX11_goesOn_40 : decode cX11_goesOn 40 = .ok (.ifCond .eq 7, 3) := by decide +kernel
theorem dX11_goesOn_43 : decode cX11_goesOn 43 = .ok (.iconst 1, 1) := by decide +kernel
theorem dX11_goesOn_44 : decode cX11_goesOn 44 = .ok (.goto 4, 3) := by decide +kernel
theorem dX11_goesOn_47 : decode cX11_goesOn 47 = .ok (.iconst 0, 1) := by decide +kernel
theorem dX11_goesOn_48 : decode cX11_goesOn 48 = .ok (.ireturn, 1) := by decide +kernel
theorem dX11_drop_0 : decode cX11_drop 0 = .ok (.aload_n 0, 1) := by decide +kernel
theorem dX11_drop_1 : decode cX11_drop 1 = .ok (.getfield 21, 3) := by decide +kernel
theorem dX11_drop_4 : decode cX11_drop 4 = .ok (.invokevirtual 130, 3) := by decide +kernel
theorem dX11_drop_7 : decode cX11_drop 7 = .ok (.ifCond .ne 8, 3) := by decide +kernel
theorem dX11_drop_10 : decode cX11_drop 10 = .ok (.bipush (-103), 2) := by decide +kernel
theorem dX11_drop_12 : decode cX11_drop 12 = .ok (.goto 10, 3) := by decide +kernel
theorem dX11_drop_15 : decode cX11_drop 15 = .ok (.aload_n 0, 1) := by decide +kernel
theorem dX11_drop_16 : decode cX11_drop 16 = .ok (.getfield 21, 3) := by decide +kernel
theorem dX11_drop_19 : decode cX11_drop 19 = .ok (.invokevirtual 152, 3) := by decide +kernel
theorem dX11_drop_22 : decode cX11_drop 22 = .ok (.ireturn, 1) := by decide +kernel
theorem dX11_put_0 : decode cX11_put 0 = .ok (.iload_n 1, 1) := by decide +kernel
theorem dX11_put_1 : decode cX11_put 1 = .ok (.iload_n 2, 1) := by decide +kernel
theorem dX11_put_2 : decode cX11_put 2 = .ok (.invokestatic 155, 3) := by decide +kernel
theorem dX11_put_5 : decode cX11_put 5 = .ok (.ifCond .ne 6, 3) := by decide +kernel
theorem dX11_put_8 : decode cX11_put 8 = .ok (.ldc 158, 2) := by decide +kernel
theorem dX11_put_10 : decode cX11_put 10 = .ok (.ireturn, 1) := by decide +kernel
theorem dX11_put_11 : decode cX11_put 11 = .ok (.iload_n 3, 1) := by decide +kernel
theorem dX11_put_12 : decode cX11_put 12 = .ok (.iload 4, 2) := by decide +kernel
theorem dX11_put_14 : decode cX11_put 14 = .ok (.invokestatic 159, 3) := by decide +kernel
theorem dX11_put_17 : decode cX11_put 17 = .ok (.ifCond .eq 13, 3) := by decide +kernel
theorem dX11_put_20 : decode cX11_put 20 = .ok (.iload 5, 2) := by decide +kernel
theorem dX11_put_22 : decode cX11_put 22 = .ok (.bipush 6, 2) := by decide +kernel
theorem dX11_put_24 : decode cX11_put 24 = .ok (.invokestatic 94, 3) := by decide +kernel
theorem dX11_put_27 : decode cX11_put 27 = .ok (.ifCond .ne 6, 3) := by decide +kernel
theorem dX11_put_30 : decode cX11_put 30 = .ok (.ldc 162, 2) := by decide +kernel
theorem dX11_put_32 : decode cX11_put 32 = .ok (.ireturn, 1) := by decide +kernel
theorem dX11_put_33 : decode cX11_put 33 = .ok (.aload_n 0, 1) := by decide +kernel
theorem dX11_put_34 : decode cX11_put 34 = .ok (.getfield 10, 3) := by decide +kernel
theorem dX11_put_37 : decode cX11_put 37 = .ok (.iload_n 2, 1) := by decide +kernel
theorem dX11_put_38 : decode cX11_put 38 = .ok (.iload_n 3, 1) := by decide +kernel
theorem dX11_put_39 : decode cX11_put 39 = .ok (.invokevirtual 163, 3) := by decide +kernel
theorem dX11_put_42 : decode cX11_put 42 = .ok (.ifCond .ne 16, 3) := by decide +kernel
theorem dX11_put_45 : decode cX11_put 45 = .ok (.iload 5, 2) := by decide +kernel
theorem dX11_put_47 : decode cX11_put 47 = .ok (.iconst 4, 1) := by decide +kernel
theorem dX11_put_48 : decode cX11_put 48 = .ok (.if_icmp .ne 7, 3) := by decide +kernel
theorem dX11_put_51 : decode cX11_put 51 = .ok (.iconst 0, 1) := by decide +kernel
theorem dX11_put_52 : decode cX11_put 52 = .ok (.goto 5, 3) := by decide +kernel
theorem dX11_put_55 : decode cX11_put 55 = .ok (.ldc 166, 2) := by decide +kernel
theorem dX11_put_57 : decode cX11_put 57 = .ok (.ireturn, 1) := by decide +kernel
theorem dX11_put_58 : decode cX11_put 58 = .ok (.iload 5, 2) := by decide +kernel
theorem dX11_put_60 : decode cX11_put 60 = .ok (.iconst 5, 1) := by decide +kernel
theorem dX11_put_61 : decode cX11_put 61 = .ok (.if_icmp .ne 16, 3) := by decide +kernel
theorem dX11_put_64 : decode cX11_put 64 = .ok (.aload_n 0, 1) := by decide +kernel
theorem dX11_put_65 : decode cX11_put 65 = .ok (.getfield 21, 3) := by decide +kernel
theorem dX11_put_68 : decode cX11_put 68 = .ok (.iload_n 1, 1) := by decide +kernel
theorem dX11_put_69 : decode cX11_put 69 = .ok (.iload_n 2, 1) := by decide +kernel
theorem dX11_put_70 : decode cX11_put 70 = .ok (.iload_n 3, 1) := by decide +kernel
theorem dX11_put_71 : decode cX11_put 71 = .ok (.iload 4, 2) := by decide +kernel
theorem dX11_put_73 : decode cX11_put 73 = .ok (.invokevirtual 167, 3) := by decide +kernel
theorem dX11_put_76 : decode cX11_put 76 = .ok (.ireturn, 1) := by decide +kernel
theorem dX11_put_77 : decode cX11_put 77 = .ok (.aload_n 0, 1) := by decide +kernel
theorem dX11_put_78 : decode cX11_put 78 = .ok (.getfield 28, 3) := by decide +kernel
theorem dX11_put_81 : decode cX11_put 81 = .ok (.iload_n 1, 1) := by decide +kernel
theorem dX11_put_82 : decode cX11_put 82 = .ok (.iload_n 2, 1) := by decide +kernel
theorem dX11_put_83 : decode cX11_put 83 = .ok (.iload_n 3, 1) := by decide +kernel
theorem dX11_put_84 : decode cX11_put 84 = .ok (.iload 4, 2) := by decide +kernel
theorem dX11_put_86 : decode cX11_put 86 = .ok (.invokevirtual 170, 3) := by decide +kernel
theorem dX11_put_89 : decode cX11_put 89 = .ok (.iload 5, 2) := by decide +kernel
theorem dX11_put_91 : decode cX11_put 91 = .ok (.tableswitch 61 0 3 #[29, 37, 45, 53], 29) := by decide +kernel
theorem dX11_put_120 : decode cX11_put 120 = .ok (.aload_n 0, 1) := by decide +kernel
theorem dX11_put_121 : decode cX11_put 121 = .ok (.getfield 28, 3) := by decide +kernel
theorem dX11_put_124 : decode cX11_put 124 = .ok (.getfield 174, 3) := by decide +kernel
theorem dX11_put_127 : decode cX11_put 127 = .ok (.ireturn, 1) := by decide +kernel
theorem dX11_put_128 : decode cX11_put 128 = .ok (.aload_n 0, 1) := by decide +kernel
theorem dX11_put_129 : decode cX11_put 129 = .ok (.getfield 28, 3) := by decide +kernel
theorem dX11_put_132 : decode cX11_put 132 = .ok (.getfield 178, 3) := by decide +kernel
theorem dX11_put_135 : decode cX11_put 135 = .ok (.ireturn, 1) := by decide +kernel
theorem dX11_put_136 : decode cX11_put 136 = .ok (.aload_n 0, 1) := by decide +kernel
theorem dX11_put_137 : decode cX11_put 137 = .ok (.getfield 28, 3) := by decide +kernel
theorem dX11_put_140 : decode cX11_put 140 = .ok (.getfield 181, 3) := by decide +kernel
theorem dX11_put_143 : decode cX11_put 143 = .ok (.ireturn, 1) := by decide +kernel
theorem dX11_put_144 : decode cX11_put 144 = .ok (.aload_n 0, 1) := by decide +kernel
theorem dX11_put_145 : decode cX11_put 145 = .ok (.getfield 28, 3) := by decide +kernel
theorem dX11_put_148 : decode cX11_put 148 = .ok (.invokevirtual 184, 3) := by decide +kernel
theorem dX11_put_151 : decode cX11_put 151 = .ok (.ireturn, 1) := by decide +kernel
theorem dX11_put_152 : decode cX11_put 152 = .ok (.aload_n 0, 1) := by decide +kernel
theorem dX11_put_153 : decode cX11_put 153 = .ok (.getfield 28, 3) := by decide +kernel
theorem dX11_put_156 : decode cX11_put 156 = .ok (.invokevirtual 187, 3) := by decide +kernel
theorem dX11_put_159 : decode cX11_put 159 = .ok (.ifCond .eq 7, 3) := by decide +kernel
theorem dX11_put_162 : decode cX11_put 162 = .ok (.iconst 1, 1) := by decide +kernel
theorem dX11_put_163 : decode cX11_put 163 = .ok (.goto 4, 3) := by decide +kernel
theorem dX11_put_166 : decode cX11_put 166 = .ok (.iconst 0, 1) := by decide +kernel
theorem dX11_put_167 : decode cX11_put 167 = .ok (.ireturn, 1) := by decide +kernel
theorem dX11_fit_0 : decode cX11_fit 0 = .ok (.iload_n 1, 1) := by decide +kernel
theorem dX11_fit_1 : decode cX11_fit 1 = .ok (.iload_n 2, 1) := by decide +kernel
theorem dX11_fit_2 : decode cX11_fit 2 = .ok (.invokestatic 155, 3) := by decide +kernel
theorem dX11_fit_5 : decode cX11_fit 5 = .ok (.ifCond .ne 6, 3) := by decide +kernel
theorem dX11_fit_8 : decode cX11_fit 8 = .ok (.bipush (-101), 2) := by decide +kernel
theorem dX11_fit_10 : decode cX11_fit 10 = .ok (.ireturn, 1) := by decide +kernel
theorem dX11_fit_11 : decode cX11_fit 11 = .ok (.iload_n 3, 1) := by decide +kernel
theorem dX11_fit_12 : decode cX11_fit 12 = .ok (.iconst 3, 1) := by decide +kernel
theorem dX11_fit_13 : decode cX11_fit 13 = .ok (.invokestatic 94, 3) := by decide +kernel
theorem dX11_fit_16 : decode cX11_fit 16 = .ok (.ifCond .ne 6, 3) := by decide +kernel
theorem dX11_fit_19 : decode cX11_fit 19 = .ok (.bipush (-102), 2) := by decide +kernel
theorem dX11_fit_21 : decode cX11_fit 21 = .ok (.ireturn, 1) := by decide +kernel
theorem dX11_fit_22 : decode cX11_fit 22 = .ok (.aload_n 0, 1) := by decide +kernel
theorem dX11_fit_23 : decode cX11_fit 23 = .ok (.getfield 28, 3) := by decide +kernel
theorem dX11_fit_26 : decode cX11_fit 26 = .ok (.iload_n 1, 1) := by decide +kernel
theorem dX11_fit_27 : decode cX11_fit 27 = .ok (.iload_n 2, 1) := by decide +kernel
theorem dX11_fit_28 : decode cX11_fit 28 = .ok (.iconst 0, 1) := by decide +kernel
theorem dX11_fit_29 : decode cX11_fit 29 = .ok (.invokevirtual 190, 3) := by decide +kernel
theorem dX11_fit_32 : decode cX11_fit 32 = .ok (.iload_n 3, 1) := by decide +kernel
theorem dX11_fit_33 : decode cX11_fit 33 = .ok (.iconst 2, 1) := by decide +kernel
theorem dX11_fit_34 : decode cX11_fit 34 = .ok (.if_icmp .ne 11, 3) := by decide +kernel
theorem dX11_fit_37 : decode cX11_fit 37 = .ok (.aload_n 0, 1) := by decide +kernel
theorem dX11_fit_38 : decode cX11_fit 38 = .ok (.getfield 28, 3) := by decide +kernel
theorem dX11_fit_41 : decode cX11_fit 41 = .ok (.getfield 194, 3) := by decide +kernel
theorem dX11_fit_44 : decode cX11_fit 44 = .ok (.ireturn, 1) := by decide +kernel
theorem dX11_fit_45 : decode cX11_fit 45 = .ok (.aload_n 0, 1) := by decide +kernel
theorem dX11_fit_46 : decode cX11_fit 46 = .ok (.getfield 28, 3) := by decide +kernel
theorem dX11_fit_49 : decode cX11_fit 49 = .ok (.getfield 194, 3) := by decide +kernel
theorem dX11_fit_52 : decode cX11_fit 52 = .ok (.ifCond .ne 5, 3) := by decide +kernel
theorem dX11_fit_55 : decode cX11_fit 55 = .ok (.iconst (-1), 1) := by decide +kernel
theorem dX11_fit_56 : decode cX11_fit 56 = .ok (.ireturn, 1) := by decide +kernel
theorem dX11_fit_57 : decode cX11_fit 57 = .ok (.iload_n 3, 1) := by decide +kernel
theorem dX11_fit_58 : decode cX11_fit 58 = .ok (.ifCond .ne 16, 3) := by decide +kernel
theorem dX11_fit_61 : decode cX11_fit 61 = .ok (.aload_n 0, 1) := by decide +kernel
theorem dX11_fit_62 : decode cX11_fit 62 = .ok (.getfield 28, 3) := by decide +kernel
theorem dX11_fit_65 : decode cX11_fit 65 = .ok (.getfield 197, 3) := by decide +kernel
theorem dX11_fit_68 : decode cX11_fit 68 = .ok (.bipush 7, 2) := by decide +kernel
theorem dX11_fit_70 : decode cX11_fit 70 = .ok (.iadd, 1) := by decide +kernel
theorem dX11_fit_71 : decode cX11_fit 71 = .ok (.goto 10, 3) := by decide +kernel
theorem dX11_fit_74 : decode cX11_fit 74 = .ok (.aload_n 0, 1) := by decide +kernel
theorem dX11_fit_75 : decode cX11_fit 75 = .ok (.getfield 28, 3) := by decide +kernel
theorem dX11_fit_78 : decode cX11_fit 78 = .ok (.getfield 200, 3) := by decide +kernel
theorem dX11_fit_81 : decode cX11_fit 81 = .ok (.ireturn, 1) := by decide +kernel
theorem dX11_chance_0 : decode cX11_chance 0 = .ok (.iload_n 1, 1) := by decide +kernel
theorem dX11_chance_1 : decode cX11_chance 1 = .ok (.iload_n 2, 1) := by decide +kernel
theorem dX11_chance_2 : decode cX11_chance 2 = .ok (.invokestatic 155, 3) := by decide +kernel
theorem dX11_chance_5 : decode cX11_chance 5 = .ok (.ifCond .ne 6, 3) := by decide +kernel
theorem dX11_chance_8 : decode cX11_chance 8 = .ok (.bipush (-101), 2) := by decide +kernel
theorem dX11_chance_10 : decode cX11_chance 10 = .ok (.ireturn, 1) := by decide +kernel
theorem dX11_chance_11 : decode cX11_chance 11 = .ok (.iload_n 3, 1) := by decide +kernel
theorem dX11_chance_12 : decode cX11_chance 12 = .ok (.iload 4, 2) := by decide +kernel
theorem dX11_chance_14 : decode cX11_chance 14 = .ok (.invokestatic 159, 3) := by decide +kernel
theorem dX11_chance_17 : decode cX11_chance 17 = .ok (.ifCond .eq 12, 3) := by decide +kernel
theorem dX11_chance_20 : decode cX11_chance 20 = .ok (.iload 5, 2) := by decide +kernel
theorem dX11_chance_22 : decode cX11_chance 22 = .ok (.iconst 2, 1) := by decide +kernel
theorem dX11_chance_23 : decode cX11_chance 23 = .ok (.invokestatic 94, 3) := by decide +kernel
theorem dX11_chance_26 : decode cX11_chance 26 = .ok (.ifCond .ne 6, 3) := by decide +kernel
theorem dX11_chance_29 : decode cX11_chance 29 = .ok (.bipush (-102), 2) := by decide +kernel
theorem dX11_chance_31 : decode cX11_chance 31 = .ok (.ireturn, 1) := by decide +kernel
theorem dX11_chance_32 : decode cX11_chance 32 = .ok (.aload_n 0, 1) := by decide +kernel
theorem dX11_chance_33 : decode cX11_chance 33 = .ok (.getfield 10, 3) := by decide +kernel
theorem dX11_chance_36 : decode cX11_chance 36 = .ok (.iload_n 2, 1) := by decide +kernel
theorem dX11_chance_37 : decode cX11_chance 37 = .ok (.iload_n 3, 1) := by decide +kernel
theorem dX11_chance_38 : decode cX11_chance 38 = .ok (.invokevirtual 163, 3) := by decide +kernel
theorem dX11_chance_41 : decode cX11_chance 41 = .ok (.ifCond .ne 6, 3) := by decide +kernel
theorem dX11_chance_44 : decode cX11_chance 44 = .ok (.bipush (-103), 2) := by decide +kernel
theorem dX11_chance_46 : decode cX11_chance 46 = .ok (.ireturn, 1) := by decide +kernel
theorem dX11_chance_47 : decode cX11_chance 47 = .ok (.aload_n 0, 1) := by decide +kernel
theorem dX11_chance_48 : decode cX11_chance 48 = .ok (.getfield 28, 3) := by decide +kernel
theorem dX11_chance_51 : decode cX11_chance 51 = .ok (.iload_n 1, 1) := by decide +kernel
theorem dX11_chance_52 : decode cX11_chance 52 = .ok (.iload_n 2, 1) := by decide +kernel
theorem dX11_chance_53 : decode cX11_chance 53 = .ok (.iload_n 3, 1) := by decide +kernel
theorem dX11_chance_54 : decode cX11_chance 54 = .ok (.iload 4, 2) := by decide +kernel
theorem dX11_chance_56 : decode cX11_chance 56 = .ok (.invokevirtual 170, 3) := by decide +kernel
theorem dX11_chance_59 : decode cX11_chance 59 = .ok (.aload_n 0, 1) := by decide +kernel
theorem dX11_chance_60 : decode cX11_chance 60 = .ok (.getfield 28, 3) := by decide +kernel
theorem dX11_chance_63 : decode cX11_chance 63 = .ok (.invokevirtual 187, 3) := by decide +kernel
theorem dX11_chance_66 : decode cX11_chance 66 = .ok (.ifCond .ne 6, 3) := by decide +kernel
theorem dX11_chance_69 : decode cX11_chance 69 = .ok (.bipush (-103), 2) := by decide +kernel
theorem dX11_chance_71 : decode cX11_chance 71 = .ok (.ireturn, 1) := by decide +kernel
theorem dX11_chance_72 : decode cX11_chance 72 = .ok (.aload_n 0, 1) := by decide +kernel
theorem dX11_chance_73 : decode cX11_chance 73 = .ok (.getfield 28, 3) := by decide +kernel
theorem dX11_chance_76 : decode cX11_chance 76 = .ok (.iload_n 1, 1) := by decide +kernel
theorem dX11_chance_77 : decode cX11_chance 77 = .ok (.iload_n 2, 1) := by decide +kernel
theorem dX11_chance_78 : decode cX11_chance 78 = .ok (.aload_n 0, 1) := by decide +kernel
theorem dX11_chance_79 : decode cX11_chance 79 = .ok (.getfield 28, 3) := by decide +kernel
theorem dX11_chance_82 : decode cX11_chance 82 = .ok (.invokevirtual 184, 3) := by decide +kernel
theorem dX11_chance_85 : decode cX11_chance 85 = .ok (.invokevirtual 190, 3) := by decide +kernel
theorem dX11_chance_88 : decode cX11_chance 88 = .ok (.iload 5, 2) := by decide +kernel
theorem dX11_chance_90 : decode cX11_chance 90 = .ok (.ifCond .ne 23, 3) := by decide +kernel
theorem dX11_chance_93 : decode cX11_chance 93 = .ok (.aload_n 0, 1) := by decide +kernel
theorem dX11_chance_94 : decode cX11_chance 94 = .ok (.getfield 28, 3) := by decide +kernel
theorem dX11_chance_97 : decode cX11_chance 97 = .ok (.getfield 203, 3) := by decide +kernel
theorem dX11_chance_100 : decode cX11_chance 100 = .ok (.aload_n 0, 1) := by decide +kernel
theorem dX11_chance_101 : decode cX11_chance 101 = .ok (.getfield 28, 3) := by decide +kernel
theorem dX11_chance_104 : decode cX11_chance 104 = .ok (.getfield 194, 3) := by decide +kernel
theorem dX11_chance_107 : decode cX11_chance 107 = .ok (.invokestatic 206, 3) := by decide +kernel
theorem dX11_chance_110 : decode cX11_chance 110 = .ok (.goto 20, 3) := by decide +kernel
theorem dX11_chance_113 : decode cX11_chance 113 = .ok (.aload_n 0, 1) := by decide +kernel
theorem dX11_chance_114 : decode cX11_chance 114 = .ok (.getfield 28, 3) := by decide +kernel
theorem dX11_chance_117 : decode cX11_chance 117 = .ok (.getfield 194, 3) := by decide +kernel
theorem dX11_chance_120 : decode cX11_chance 120 = .ok (.aload_n 0, 1) := by decide +kernel
theorem dX11_chance_121 : decode cX11_chance 121 = .ok (.getfield 28, 3) := by decide +kernel
theorem dX11_chance_124 : decode cX11_chance 124 = .ok (.getfield 203, 3) := by decide +kernel
theorem dX11_chance_127 : decode cX11_chance 127 = .ok (.invokestatic 206, 3) := by decide +kernel
theorem dX11_chance_130 : decode cX11_chance 130 = .ok (.ireturn, 1) := by decide +kernel
theorem dX11_beside_0 : decode cX11_beside 0 = .ok (.iload_n 1, 1) := by decide +kernel
theorem dX11_beside_1 : decode cX11_beside 1 = .ok (.iload_n 2, 1) := by decide +kernel
theorem dX11_beside_2 : decode cX11_beside 2 = .ok (.invokestatic 155, 3) := by decide +kernel
theorem dX11_beside_5 : decode cX11_beside 5 = .ok (.ifCond .ne 6, 3) := by decide +kernel
theorem dX11_beside_8 : decode cX11_beside 8 = .ok (.bipush (-101), 2) := by decide +kernel
theorem dX11_beside_10 : decode cX11_beside 10 = .ok (.ireturn, 1) := by decide +kernel
theorem dX11_beside_11 : decode cX11_beside 11 = .ok (.iload_n 3, 1) := by decide +kernel
theorem dX11_beside_12 : decode cX11_beside 12 = .ok (.iload 4, 2) := by decide +kernel
theorem dX11_beside_14 : decode cX11_beside 14 = .ok (.invokestatic 159, 3) := by decide +kernel
theorem dX11_beside_17 : decode cX11_beside 17 = .ok (.ifCond .ne 6, 3) := by decide +kernel
theorem dX11_beside_20 : decode cX11_beside 20 = .ok (.bipush (-102), 2) := by decide +kernel
theorem dX11_beside_22 : decode cX11_beside 22 = .ok (.ireturn, 1) := by decide +kernel
theorem dX11_beside_23 : decode cX11_beside 23 = .ok (.aload_n 0, 1) := by decide +kernel
theorem dX11_beside_24 : decode cX11_beside 24 = .ok (.getfield 10, 3) := by decide +kernel
theorem dX11_beside_27 : decode cX11_beside 27 = .ok (.iload_n 2, 1) := by decide +kernel
theorem dX11_beside_28 : decode cX11_beside 28 = .ok (.iload_n 3, 1) := by decide +kernel
theorem dX11_beside_29 : decode cX11_beside 29 = .ok (.invokevirtual 163, 3) := by decide +kernel
theorem dX11_beside_32 : decode cX11_beside 32 = .ok (.ifCond .ne 6, 3) := by decide +kernel
theorem dX11_beside_35 : decode cX11_beside 35 = .ok (.bipush (-103), 2) := by decide +kernel
theorem dX11_beside_37 : decode cX11_beside 37 = .ok (.ireturn, 1) := by decide +kernel
theorem dX11_beside_38 : decode cX11_beside 38 = .ok (.aload_n 0, 1) := by decide +kernel
theorem dX11_beside_39 : decode cX11_beside 39 = .ok (.getfield 21, 3) := by decide +kernel
theorem dX11_beside_42 : decode cX11_beside 42 = .ok (.iload_n 1, 1) := by decide +kernel
theorem dX11_beside_43 : decode cX11_beside 43 = .ok (.iload_n 2, 1) := by decide +kernel
theorem dX11_beside_44 : decode cX11_beside 44 = .ok (.iload_n 3, 1) := by decide +kernel
theorem dX11_beside_45 : decode cX11_beside 45 = .ok (.iload 4, 2) := by decide +kernel
theorem dX11_beside_47 : decode cX11_beside 47 = .ok (.invokevirtual 167, 3) := by decide +kernel
theorem dX11_beside_50 : decode cX11_beside 50 = .ok (.istore 5, 2) := by decide +kernel
theorem dX11_beside_52 : decode cX11_beside 52 = .ok (.aload_n 0, 1) := by decide +kernel
theorem dX11_beside_53 : decode cX11_beside 53 = .ok (.iload_n 1, 1) := by decide +kernel
theorem dX11_beside_54 : decode cX11_beside 54 = .ok (.iload_n 2, 1) := by decide +kernel
theorem dX11_beside_55 : decode cX11_beside 55 = .ok (.iload_n 3, 1) := by decide +kernel
theorem dX11_beside_56 : decode cX11_beside 56 = .ok (.iconst 1, 1) := by decide +kernel
theorem dX11_beside_57 : decode cX11_beside 57 = .ok (.isub, 1) := by decide +kernel
theorem dX11_beside_58 : decode cX11_beside 58 = .ok (.iload 4, 2) := by decide +kernel
theorem dX11_beside_60 : decode cX11_beside 60 = .ok (.iload 5, 2) := by decide +kernel
theorem dX11_beside_62 : decode cX11_beside 62 = .ok (.invokevirtual 210, 3) := by decide +kernel
theorem dX11_beside_65 : decode cX11_beside 65 = .ok (.aload_n 0, 1) := by decide +kernel
theorem dX11_beside_66 : decode cX11_beside 66 = .ok (.iload_n 1, 1) := by decide +kernel
theorem dX11_beside_67 : decode cX11_beside 67 = .ok (.iload_n 2, 1) := by decide +kernel
theorem dX11_beside_68 : decode cX11_beside 68 = .ok (.iload_n 3, 1) := by decide +kernel
theorem dX11_beside_69 : decode cX11_beside 69 = .ok (.iconst 1, 1) := by decide +kernel
theorem dX11_beside_70 : decode cX11_beside 70 = .ok (.iadd, 1) := by decide +kernel
theorem dX11_beside_71 : decode cX11_beside 71 = .ok (.iload 4, 2) := by decide +kernel
theorem dX11_beside_73 : decode cX11_beside 73 = .ok (.iload 5, 2) := by decide +kernel
theorem dX11_beside_75 : decode cX11_beside 75 = .ok (.invokevirtual 210, 3) := by decide +kernel
theorem dX11_beside_78 : decode cX11_beside 78 = .ok (.iadd, 1) := by decide +kernel
theorem dX11_beside_79 : decode cX11_beside 79 = .ok (.aload_n 0, 1) := by decide +kernel
theorem dX11_beside_80 : decode cX11_beside 80 = .ok (.iload_n 1, 1) := by decide +kernel
theorem dX11_beside_81 : decode cX11_beside 81 = .ok (.iload_n 2, 1) := by decide +kernel
theorem dX11_beside_82 : decode cX11_beside 82 = .ok (.iload_n 3, 1) := by decide +kernel
theorem dX11_beside_83 : decode cX11_beside 83 = .ok (.iload 4, 2) := by decide +kernel
theorem dX11_beside_85 : decode cX11_beside 85 = .ok (.bipush 15, 2) := by decide +kernel
theorem dX11_beside_87 : decode cX11_beside 87 = .ok (.invokestatic 214, 3) := by decide +kernel
theorem dX11_beside_90 : decode cX11_beside 90 = .ok (.iload 5, 2) := by decide +kernel
theorem dX11_beside_92 : decode cX11_beside 92 = .ok (.invokevirtual 210, 3) := by decide +kernel
theorem dX11_beside_95 : decode cX11_beside 95 = .ok (.iadd, 1) := by decide +kernel
theorem dX11_beside_96 : decode cX11_beside 96 = .ok (.aload_n 0, 1) := by decide +kernel
theorem dX11_beside_97 : decode cX11_beside 97 = .ok (.iload_n 1, 1) := by decide +kernel
theorem dX11_beside_98 : decode cX11_beside 98 = .ok (.iload_n 2, 1) := by decide +kernel
theorem dX11_beside_99 : decode cX11_beside 99 = .ok (.iload_n 3, 1) := by decide +kernel
theorem dX11_beside_100 : decode cX11_beside 100 = .ok (.iload 4, 2) := by decide +kernel
theorem dX11_beside_102 : decode cX11_beside 102 = .ok (.iconst 1, 1) := by decide +kernel
theorem dX11_beside_103 : decode cX11_beside 103 = .ok (.invokestatic 214, 3) := by decide +kernel
theorem dX11_beside_106 : decode cX11_beside 106 = .ok (.iload 5, 2) := by decide +kernel
theorem dX11_beside_108 : decode cX11_beside 108 = .ok (.invokevirtual 210, 3) := by decide +kernel
theorem dX11_beside_111 : decode cX11_beside 111 = .ok (.iadd, 1) := by decide +kernel
theorem dX11_beside_112 : decode cX11_beside 112 = .ok (.ireturn, 1) := by decide +kernel
theorem dX11_asGreat_0 : decode cX11_asGreat 0 = .ok (.iload_n 3, 1) := by decide +kernel
theorem dX11_asGreat_1 : decode cX11_asGreat 1 = .ok (.iload 4, 2) := by decide +kernel
theorem dX11_asGreat_3 : decode cX11_asGreat 3 = .ok (.invokestatic 159, 3) := by decide +kernel
theorem dX11_asGreat_6 : decode cX11_asGreat 6 = .ok (.ifCond .eq 15, 3) := by decide +kernel
theorem dX11_asGreat_9 : decode cX11_asGreat 9 = .ok (.aload_n 0, 1) := by decide +kernel
theorem dX11_asGreat_10 : decode cX11_asGreat 10 = .ok (.getfield 10, 3) := by decide +kernel
theorem dX11_asGreat_13 : decode cX11_asGreat 13 = .ok (.iload_n 2, 1) := by decide +kernel
theorem dX11_asGreat_14 : decode cX11_asGreat 14 = .ok (.iload_n 3, 1) := by decide +kernel
theorem dX11_asGreat_15 : decode cX11_asGreat 15 = .ok (.invokevirtual 163, 3) := by decide +kernel
theorem dX11_asGreat_18 : decode cX11_asGreat 18 = .ok (.ifCond .ne 5, 3) := by decide +kernel
theorem dX11_asGreat_21 : decode cX11_asGreat 21 = .ok (.iconst 0, 1) := by decide +kernel
theorem dX11_asGreat_22 : decode cX11_asGreat 22 = .ok (.ireturn, 1) := by decide +kernel
theorem dX11_asGreat_23 : decode cX11_asGreat 23 = .ok (.aload_n 0, 1) := by decide +kernel
theorem dX11_asGreat_24 : decode cX11_asGreat 24 = .ok (.getfield 21, 3) := by decide +kernel
theorem dX11_asGreat_27 : decode cX11_asGreat 27 = .ok (.iload_n 1, 1) := by decide +kernel
theorem dX11_asGreat_28 : decode cX11_asGreat 28 = .ok (.iload_n 2, 1) := by decide +kernel
theorem dX11_asGreat_29 : decode cX11_asGreat 29 = .ok (.iload_n 3, 1) := by decide +kernel
theorem dX11_asGreat_30 : decode cX11_asGreat 30 = .ok (.iload 4, 2) := by decide +kernel
theorem dX11_asGreat_32 : decode cX11_asGreat 32 = .ok (.invokevirtual 167, 3) := by decide +kernel
theorem dX11_asGreat_35 : decode cX11_asGreat 35 = .ok (.iload 5, 2) := by decide +kernel
theorem dX11_asGreat_37 : decode cX11_asGreat 37 = .ok (.if_icmp .lt 7, 3) := by decide +kernel
theorem dX11_asGreat_40 : decode cX11_asGreat 40 = .ok (.iconst 1, 1) := by decide +kernel
theorem dX11_asGreat_41 : decode cX11_asGreat 41 = .ok (.goto 4, 3) := by decide +kernel
theorem dX11_asGreat_44 : decode cX11_asGreat 44 = .ok (.iconst 0, 1) := by decide +kernel
theorem dX11_asGreat_45 : decode cX11_asGreat 45 = .ok (.ireturn, 1) := by decide +kernel
theorem dX11_letters_0 : decode cX11_letters 0 = .ok (.lload_n 1, 1) := by decide +kernel
theorem dX11_letters_1 : decode cX11_letters 1 = .ok (.invokestatic 217, 3) := by decide +kernel
theorem dX11_letters_4 : decode cX11_letters 4 = .ok (.ifCond .ne 6, 3) := by decide +kernel
theorem dX11_letters_7 : decode cX11_letters 7 = .ok (.bipush (-102), 2) := by decide +kernel
theorem dX11_letters_9 : decode cX11_letters 9 = .ok (.ireturn, 1) := by decide +kernel
theorem dX11_letters_10 : decode cX11_letters 10 = .ok (.aload_n 0, 1) := by decide +kernel
theorem dX11_letters_11 : decode cX11_letters 11 = .ok (.getfield 35, 3) := by decide +kernel
theorem dX11_letters_14 : decode cX11_letters 14 = .ok (.lload_n 1, 1) := by decide +kernel
theorem dX11_letters_15 : decode cX11_letters 15 = .ok (.invokevirtual 221, 3) := by decide +kernel
theorem dX11_letters_18 : decode cX11_letters 18 = .ok (.ifCond .eq 14, 3) := by decide +kernel
theorem dX11_letters_21 : decode cX11_letters 21 = .ok (.aload_n 0, 1) := by decide +kernel
theorem dX11_letters_22 : decode cX11_letters 22 = .ok (.getfield 35, 3) := by decide +kernel
theorem dX11_letters_25 : decode cX11_letters 25 = .ok (.lload_n 1, 1) := by decide +kernel
theorem dX11_letters_26 : decode cX11_letters 26 = .ok (.invokevirtual 224, 3) := by decide +kernel
theorem dX11_letters_29 : decode cX11_letters 29 = .ok (.goto 5, 3) := by decide +kernel
theorem dX11_letters_32 : decode cX11_letters 32 = .ok (.bipush (-104), 2) := by decide +kernel
theorem dX11_letters_34 : decode cX11_letters 34 = .ok (.ireturn, 1) := by decide +kernel
theorem dX11_blank_0 : decode cX11_blank 0 = .ok (.aload_n 0, 1) := by decide +kernel
theorem dX11_blank_1 : decode cX11_blank 1 = .ok (.getfield 35, 3) := by decide +kernel
theorem dX11_blank_4 : decode cX11_blank 4 = .ok (.invokevirtual 228, 3) := by decide +kernel
theorem dX11_blank_7 : decode cX11_blank 7 = .ok (.ireturn, 1) := by decide +kernel
theorem dX11_fault_0 : decode cX11_fault 0 = .ok (.aload_n 0, 1) := by decide +kernel
theorem dX11_fault_1 : decode cX11_fault 1 = .ok (.getfield 35, 3) := by decide +kernel
theorem dX11_fault_4 : decode cX11_fault 4 = .ok (.invokevirtual 231, 3) := by decide +kernel
theorem dX11_fault_7 : decode cX11_fault 7 = .ok (.ireturn, 1) := by decide +kernel
theorem dX11_law_0 : decode cX11_law 0 = .ok (.iload_n 1, 1) := by decide +kernel
theorem dX11_law_1 : decode cX11_law 1 = .ok (.iconst 2, 1) := by decide +kernel
theorem dX11_law_2 : decode cX11_law 2 = .ok (.invokestatic 94, 3) := by decide +kernel
theorem dX11_law_5 : decode cX11_law 5 = .ok (.ifCond .ne 6, 3) := by decide +kernel
theorem dX11_law_8 : decode cX11_law 8 = .ok (.bipush (-101), 2) := by decide +kernel
theorem dX11_law_10 : decode cX11_law 10 = .ok (.ireturn, 1) := by decide +kernel
theorem dX11_law_11 : decode cX11_law 11 = .ok (.aload_n 0, 1) := by decide +kernel
theorem dX11_law_12 : decode cX11_law 12 = .ok (.getfield 35, 3) := by decide +kernel
theorem dX11_law_15 : decode cX11_law 15 = .ok (.invokevirtual 234, 3) := by decide +kernel
theorem dX11_law_18 : decode cX11_law 18 = .ok (.ifCond .ne 6, 3) := by decide +kernel
theorem dX11_law_21 : decode cX11_law 21 = .ok (.bipush (-103), 2) := by decide +kernel
theorem dX11_law_23 : decode cX11_law 23 = .ok (.ireturn, 1) := by decide +kernel
theorem dX11_law_24 : decode cX11_law 24 = .ok (.aload_n 0, 1) := by decide +kernel
theorem dX11_law_25 : decode cX11_law 25 = .ok (.iload_n 1, 1) := by decide +kernel
theorem dX11_law_26 : decode cX11_law 26 = .ok (.invokevirtual 237, 3) := by decide +kernel
theorem dX11_law_29 : decode cX11_law 29 = .ok (.astore_n 2, 1) := by decide +kernel
theorem dX11_law_30 : decode cX11_law 30 = .ok (.aload_n 2, 1) := by decide +kernel
theorem dX11_law_31 : decode cX11_law 31 = .ok (.invokevirtual 241, 3) := by decide +kernel
theorem dX11_law_34 : decode cX11_law 34 = .ok (.ifCond .eq 6, 3) := by decide +kernel
theorem dX11_law_37 : decode cX11_law 37 = .ok (.bipush (-104), 2) := by decide +kernel
theorem dX11_law_39 : decode cX11_law 39 = .ok (.ireturn, 1) := by decide +kernel
theorem dX11_law_40 : decode cX11_law 40 = .ok (.aload_n 2, 1) := by decide +kernel
theorem dX11_law_41 : decode cX11_law 41 = .ok (.aload_n 0, 1) := by decide +kernel
theorem dX11_law_42 : decode cX11_law 42 = .ok (.getfield 35, 3) := by decide +kernel
theorem dX11_law_45 : decode cX11_law 45 = .ok (.invokevirtual 242, 3) := by decide +kernel
theorem dX11_law_48 : decode cX11_law 48 = .ok (.istore_n 3, 1) := by decide +kernel
theorem dX11_law_49 : decode cX11_law 49 = .ok (.aload_n 0, 1) := by decide +kernel
theorem dX11_law_50 : decode cX11_law 50 = .ok (.getfield 35, 3) := by decide +kernel
theorem dX11_law_53 : decode cX11_law 53 = .ok (.invokevirtual 228, 3) := by decide +kernel
theorem dX11_law_56 : decode cX11_law 56 = .ok (.pop, 1) := by decide +kernel
theorem dX11_law_57 : decode cX11_law 57 = .ok (.iload_n 3, 1) := by decide +kernel
theorem dX11_law_58 : decode cX11_law 58 = .ok (.ireturn, 1) := by decide +kernel
theorem dX11_strike_0 : decode cX11_strike 0 = .ok (.iload_n 1, 1) := by decide +kernel
theorem dX11_strike_1 : decode cX11_strike 1 = .ok (.iconst 2, 1) := by decide +kernel
theorem dX11_strike_2 : decode cX11_strike 2 = .ok (.invokestatic 94, 3) := by decide +kernel
theorem dX11_strike_5 : decode cX11_strike 5 = .ok (.ifCond .ne 6, 3) := by decide +kernel
theorem dX11_strike_8 : decode cX11_strike 8 = .ok (.bipush (-101), 2) := by decide +kernel
theorem dX11_strike_10 : decode cX11_strike 10 = .ok (.ireturn, 1) := by decide +kernel
theorem dX11_strike_11 : decode cX11_strike 11 = .ok (.aload_n 0, 1) := by decide +kernel
theorem dX11_strike_12 : decode cX11_strike 12 = .ok (.iload_n 1, 1) := by decide +kernel
theorem dX11_strike_13 : decode cX11_strike 13 = .ok (.invokevirtual 237, 3) := by decide +kernel
theorem dX11_strike_16 : decode cX11_strike 16 = .ok (.astore_n 2, 1) := by decide +kernel
theorem dX11_strike_17 : decode cX11_strike 17 = .ok (.aload_n 2, 1) := by decide +kernel
theorem dX11_strike_18 : decode cX11_strike 18 = .ok (.invokevirtual 246, 3) := by decide +kernel
theorem dX11_strike_21 : decode cX11_strike 21 = .ok (.ifCond .ne 8, 3) := by decide +kernel
theorem dX11_strike_24 : decode cX11_strike 24 = .ok (.bipush (-103), 2) := by decide +kernel
theorem dX11_strike_26 : decode cX11_strike 26 = .ok (.goto 7, 3) := by decide +kernel
theorem dX11_strike_29 : decode cX11_strike 29 = .ok (.aload_n 2, 1) := by decide +kernel
theorem dX11_strike_30 : decode cX11_strike 30 = .ok (.invokevirtual 247, 3) := by decide +kernel
theorem dX11_strike_33 : decode cX11_strike 33 = .ok (.ireturn, 1) := by decide +kernel
theorem dX11_distance_0 : decode cX11_distance 0 = .ok (.iload_n 1, 1) := by decide +kernel
theorem dX11_distance_1 : decode cX11_distance 1 = .ok (.iload_n 2, 1) := by decide +kernel
theorem dX11_distance_2 : decode cX11_distance 2 = .ok (.invokestatic 155, 3) := by decide +kernel
theorem dX11_distance_5 : decode cX11_distance 5 = .ok (.ifCond .eq 15, 3) := by decide +kernel
theorem dX11_distance_8 : decode cX11_distance 8 = .ok (.aload_n 0, 1) := by decide +kernel
theorem dX11_distance_9 : decode cX11_distance 9 = .ok (.getfield 10, 3) := by decide +kernel
theorem dX11_distance_12 : decode cX11_distance 12 = .ok (.iload_n 1, 1) := by decide +kernel
theorem dX11_distance_13 : decode cX11_distance 13 = .ok (.iload_n 2, 1) := by decide +kernel
theorem dX11_distance_14 : decode cX11_distance 14 = .ok (.invokevirtual 248, 3) := by decide +kernel
theorem dX11_distance_17 : decode cX11_distance 17 = .ok (.goto 5, 3) := by decide +kernel
theorem dX11_distance_20 : decode cX11_distance 20 = .ok (.bipush (-101), 2) := by decide +kernel
theorem dX11_distance_22 : decode cX11_distance 22 = .ok (.ireturn, 1) := by decide +kernel
theorem dX11_beast_0 : decode cX11_beast 0 = .ok (.iload_n 1, 1) := by decide +kernel
theorem dX11_beast_1 : decode cX11_beast 1 = .ok (.iconst 1, 1) := by decide +kernel
theorem dX11_beast_2 : decode cX11_beast 2 = .ok (.if_icmp .lt 18, 3) := by decide +kernel
theorem dX11_beast_5 : decode cX11_beast 5 = .ok (.iload_n 1, 1) := by decide +kernel
theorem dX11_beast_6 : decode cX11_beast 6 = .ok (.bipush 63, 2) := by decide +kernel
theorem dX11_beast_8 : decode cX11_beast 8 = .ok (.if_icmp .gt 12, 3) := by decide +kernel
theorem dX11_beast_11 : decode cX11_beast 11 = .ok (.iload_n 2, 1) := by decide +kernel
theorem dX11_beast_12 : decode cX11_beast 12 = .ok (.bipush 10, 2) := by decide +kernel
theorem dX11_beast_14 : decode cX11_beast 14 = .ok (.invokestatic 94, 3) := by decide +kernel
theorem dX11_beast_17 : decode cX11_beast 17 = .ok (.ifCond .ne 6, 3) := by decide +kernel
theorem dX11_beast_20 : decode cX11_beast 20 = .ok (.bipush (-102), 2) := by decide +kernel
theorem dX11_beast_22 : decode cX11_beast 22 = .ok (.ireturn, 1) := by decide +kernel
theorem dX11_beast_23 : decode cX11_beast 23 = .ok (.aload_n 0, 1) := by decide +kernel
theorem dX11_beast_24 : decode cX11_beast 24 = .ok (.getfield 52, 3) := by decide +kernel
theorem dX11_beast_27 : decode cX11_beast 27 = .ok (.invokevirtual 251, 3) := by decide +kernel
theorem dX11_beast_30 : decode cX11_beast 30 = .ok (.ifCond .eq 8, 3) := by decide +kernel
theorem dX11_beast_33 : decode cX11_beast 33 = .ok (.bipush (-104), 2) := by decide +kernel
theorem dX11_beast_35 : decode cX11_beast 35 = .ok (.goto 12, 3) := by decide +kernel
theorem dX11_beast_38 : decode cX11_beast 38 = .ok (.aload_n 0, 1) := by decide +kernel
theorem dX11_beast_39 : decode cX11_beast 39 = .ok (.getfield 52, 3) := by decide +kernel
theorem dX11_beast_42 : decode cX11_beast 42 = .ok (.iload_n 1, 1) := by decide +kernel
theorem dX11_beast_43 : decode cX11_beast 43 = .ok (.iload_n 2, 1) := by decide +kernel
theorem dX11_beast_44 : decode cX11_beast 44 = .ok (.invokevirtual 252, 3) := by decide +kernel
theorem dX11_beast_47 : decode cX11_beast 47 = .ok (.ireturn, 1) := by decide +kernel
theorem dX11_crossing_0 : decode cX11_crossing 0 = .ok (.iload_n 1, 1) := by decide +kernel
theorem dX11_crossing_1 : decode cX11_crossing 1 = .ok (.iconst 2, 1) := by decide +kernel
theorem dX11_crossing_2 : decode cX11_crossing 2 = .ok (.invokestatic 94, 3) := by decide +kernel
theorem dX11_crossing_5 : decode cX11_crossing 5 = .ok (.ifCond .eq 26, 3) := by decide +kernel
theorem dX11_crossing_8 : decode cX11_crossing 8 = .ok (.iload_n 2, 1) := by decide +kernel
theorem dX11_crossing_9 : decode cX11_crossing 9 = .ok (.aload_n 0, 1) := by decide +kernel
theorem dX11_crossing_10 : decode cX11_crossing 10 = .ok (.getfield 52, 3) := by decide +kernel
theorem dX11_crossing_13 : decode cX11_crossing 13 = .ok (.invokevirtual 254, 3) := by decide +kernel
theorem dX11_crossing_16 : decode cX11_crossing 16 = .ok (.invokestatic 94, 3) := by decide +kernel
theorem dX11_crossing_19 : decode cX11_crossing 19 = .ok (.ifCond .eq 12, 3) := by decide +kernel
theorem dX11_crossing_22 : decode cX11_crossing 22 = .ok (.iload_n 3, 1) := by decide +kernel
theorem dX11_crossing_23 : decode cX11_crossing 23 = .ok (.iload 4, 2) := by decide +kernel
theorem dX11_crossing_25 : decode cX11_crossing 25 = .ok (.invokestatic 155, 3) := by decide +kernel
theorem dX11_crossing_28 : decode cX11_crossing 28 = .ok (.ifCond .ne 6, 3) := by decide +kernel
theorem dX11_crossing_31 : decode cX11_crossing 31 = .ok (.bipush (-101), 2) := by decide +kernel
theorem dX11_crossing_33 : decode cX11_crossing 33 = .ok (.ireturn, 1) := by decide +kernel
theorem dX11_crossing_34 : decode cX11_crossing 34 = .ok (.iload 5, 2) := by decide +kernel
theorem dX11_crossing_36 : decode cX11_crossing 36 = .ok (.iconst 2, 1) := by decide +kernel
theorem dX11_crossing_37 : decode cX11_crossing 37 = .ok (.invokestatic 94, 3) := by decide +kernel
theorem dX11_crossing_40 : decode cX11_crossing 40 = .ok (.ifCond .ne 6, 3) := by decide +kernel
theorem dX11_crossing_43 : decode cX11_crossing 43 = .ok (.bipush (-102), 2) := by decide +kernel
theorem dX11_crossing_45 : decode cX11_crossing 45 = .ok (.ireturn, 1) := by decide +kernel
theorem dX11_crossing_46 : decode cX11_crossing 46 = .ok (.aload_n 0, 1) := by decide +kernel
theorem dX11_crossing_47 : decode cX11_crossing 47 = .ok (.iload_n 1, 1) := by decide +kernel
theorem dX11_crossing_48 : decode cX11_crossing 48 = .ok (.invokevirtual 237, 3) := by decide +kernel
theorem dX11_crossing_51 : decode cX11_crossing 51 = .ok (.astore 6, 2) := by decide +kernel
theorem dX11_crossing_53 : decode cX11_crossing 53 = .ok (.aload 6, 2) := by decide +kernel
theorem dX11_crossing_55 : decode cX11_crossing 55 = .ok (.aload_n 0, 1) := by decide +kernel
theorem dX11_crossing_56 : decode cX11_crossing 56 = .ok (.getfield 10, 3) := by decide +kernel
theorem dX11_crossing_59 : decode cX11_crossing 59 = .ok (.iload_n 3, 1) := by decide +kernel
theorem dX11_crossing_60 : decode cX11_crossing 60 = .ok (.iload 4, 2) := by decide +kernel
theorem dX11_crossing_62 : decode cX11_crossing 62 = .ok (.invokevirtual 248, 3) := by decide +kernel
theorem dX11_crossing_65 : decode cX11_crossing 65 = .ok (.aload_n 0, 1) := by decide +kernel
theorem dX11_crossing_66 : decode cX11_crossing 66 = .ok (.getfield 52, 3) := by decide +kernel
theorem dX11_crossing_69 : decode cX11_crossing 69 = .ok (.iload_n 2, 1) := by decide +kernel
theorem dX11_crossing_70 : decode cX11_crossing 70 = .ok (.invokevirtual 255, 3) := by decide +kernel
theorem dX11_crossing_73 : decode cX11_crossing 73 = .ok (.aload_n 0, 1) := by decide +kernel
theorem dX11_crossing_74 : decode cX11_crossing 74 = .ok (.getfield 52, 3) := by decide +kernel
theorem dX11_crossing_77 : decode cX11_crossing 77 = .ok (.iload_n 2, 1) := by decide +kernel
theorem dX11_crossing_78 : decode cX11_crossing 78 = .ok (.invokevirtual 258, 3) := by decide +kernel
theorem dX11_crossing_81 : decode cX11_crossing 81 = .ok (.invokevirtual 261, 3) := by decide +kernel
theorem dX11_crossing_84 : decode cX11_crossing 84 = .ok (.iload 5, 2) := by decide +kernel
theorem dX11_crossing_86 : decode cX11_crossing 86 = .ok (.ifCond .ne 11, 3) := by decide +kernel
theorem dX11_crossing_89 : decode cX11_crossing 89 = .ok (.aload 6, 2) := by decide +kernel
theorem dX11_crossing_91 : decode cX11_crossing 91 = .ok (.getfield 264, 3) := by decide +kernel
theorem dX11_crossing_94 : decode cX11_crossing 94 = .ok (.goto 8, 3) := by decide +kernel
theorem dX11_crossing_97 : decode cX11_crossing 97 = .ok (.aload 6, 2) := by decide +kernel
theorem dX11_crossing_99 : decode cX11_crossing 99 = .ok (.getfield 266, 3) := by decide +kernel
theorem dX11_crossing_102 : decode cX11_crossing 102 = .ok (.ireturn, 1) := by decide +kernel
theorem dX11_spread_0 : decode cX11_spread 0 = .ok (.iload_n 1, 1) := by decide +kernel
theorem dX11_spread_1 : decode cX11_spread 1 = .ok (.iconst 2, 1) := by decide +kernel
theorem dX11_spread_2 : decode cX11_spread 2 = .ok (.invokestatic 94, 3) := by decide +kernel
theorem dX11_spread_5 : decode cX11_spread 5 = .ok (.ifCond .eq 17, 3) := by decide +kernel
theorem dX11_spread_8 : decode cX11_spread 8 = .ok (.iload_n 2, 1) := by decide +kernel
theorem dX11_spread_9 : decode cX11_spread 9 = .ok (.aload_n 0, 1) := by decide +kernel
theorem dX11_spread_10 : decode cX11_spread 10 = .ok (.getfield 52, 3) := by decide +kernel
theorem dX11_spread_13 : decode cX11_spread 13 = .ok (.invokevirtual 254, 3) := by decide +kernel
theorem dX11_spread_16 : decode cX11_spread 16 = .ok (.invokestatic 94, 3) := by decide +kernel
theorem dX11_spread_19 : decode cX11_spread 19 = .ok (.ifCond .ne 6, 3) := by decide +kernel
theorem dX11_spread_22 : decode cX11_spread 22 = .ok (.bipush (-101), 2) := by decide +kernel
theorem dX11_spread_24 : decode cX11_spread 24 = .ok (.ireturn, 1) := by decide +kernel
theorem dX11_spread_25 : decode cX11_spread 25 = .ok (.iload_n 3, 1) := by decide +kernel
theorem dX11_spread_26 : decode cX11_spread 26 = .ok (.iconst 2, 1) := by decide +kernel
theorem dX11_spread_27 : decode cX11_spread 27 = .ok (.invokestatic 94, 3) := by decide +kernel
theorem dX11_spread_30 : decode cX11_spread 30 = .ok (.ifCond .ne 6, 3) := by decide +kernel
theorem dX11_spread_33 : decode cX11_spread 33 = .ok (.bipush (-102), 2) := by decide +kernel
theorem dX11_spread_35 : decode cX11_spread 35 = .ok (.ireturn, 1) := by decide +kernel
theorem dX11_spread_36 : decode cX11_spread 36 = .ok (.aload_n 0, 1) := by decide +kernel
theorem dX11_spread_37 : decode cX11_spread 37 = .ok (.getfield 61, 3) := by decide +kernel
theorem dX11_spread_40 : decode cX11_spread 40 = .ok (.aload_n 0, 1) := by decide +kernel
theorem dX11_spread_41 : decode cX11_spread 41 = .ok (.iload_n 1, 1) := by decide +kernel
theorem dX11_spread_42 : decode cX11_spread 42 = .ok (.invokevirtual 237, 3) := by decide +kernel
theorem dX11_spread_45 : decode cX11_spread 45 = .ok (.iload_n 2, 1) := by decide +kernel
theorem dX11_spread_46 : decode cX11_spread 46 = .ok (.invokevirtual 269, 3) := by decide +kernel
theorem dX11_spread_49 : decode cX11_spread 49 = .ok (.pop, 1) := by decide +kernel
theorem dX11_spread_50 : decode cX11_spread 50 = .ok (.iload_n 3, 1) := by decide +kernel
theorem dX11_spread_51 : decode cX11_spread 51 = .ok (.ifCond .ne 13, 3) := by decide +kernel
theorem dX11_spread_54 : decode cX11_spread 54 = .ok (.aload_n 0, 1) := by decide +kernel
theorem dX11_spread_55 : decode cX11_spread 55 = .ok (.getfield 61, 3) := by decide +kernel
theorem dX11_spread_58 : decode cX11_spread 58 = .ok (.getfield 273, 3) := by decide +kernel
theorem dX11_spread_61 : decode cX11_spread 61 = .ok (.goto 10, 3) := by decide +kernel
theorem dX11_spread_64 : decode cX11_spread 64 = .ok (.aload_n 0, 1) := by decide +kernel
theorem dX11_spread_65 : decode cX11_spread 65 = .ok (.getfield 61, 3) := by decide +kernel
theorem dX11_spread_68 : decode cX11_spread 68 = .ok (.getfield 274, 3) := by decide +kernel
theorem dX11_spread_71 : decode cX11_spread 71 = .ok (.ireturn, 1) := by decide +kernel
theorem dX11_unlike_0 : decode cX11_unlike 0 = .ok (.iload_n 1, 1) := by decide +kernel
theorem dX11_unlike_1 : decode cX11_unlike 1 = .ok (.iconst 2, 1) := by decide +kernel
theorem dX11_unlike_2 : decode cX11_unlike 2 = .ok (.invokestatic 94, 3) := by decide +kernel
theorem dX11_unlike_5 : decode cX11_unlike 5 = .ok (.ifCond .ne 6, 3) := by decide +kernel
theorem dX11_unlike_8 : decode cX11_unlike 8 = .ok (.bipush (-102), 2) := by decide +kernel
theorem dX11_unlike_10 : decode cX11_unlike 10 = .ok (.ireturn, 1) := by decide +kernel
theorem dX11_unlike_11 : decode cX11_unlike 11 = .ok (.iconst 0, 1) := by decide +kernel
theorem dX11_unlike_12 : decode cX11_unlike 12 = .ok (.istore_n 2, 1) := by decide +kernel
theorem dX11_unlike_13 : decode cX11_unlike 13 = .ok (.iconst (-1), 1) := by decide +kernel
theorem dX11_unlike_14 : decode cX11_unlike 14 = .ok (.istore_n 3, 1) := by decide +kernel
theorem dX11_unlike_15 : decode cX11_unlike 15 = .ok (.iconst 0, 1) := by decide +kernel
theorem dX11_unlike_16 : decode cX11_unlike 16 = .ok (.istore 4, 2) := by decide +kernel
theorem dX11_unlike_18 : decode cX11_unlike 18 = .ok (.iconst 0, 1) := by decide +kernel
theorem dX11_unlike_19 : decode cX11_unlike 19 = .ok (.istore 5, 2) := by decide +kernel
theorem dX11_unlike_21 : decode cX11_unlike 21 = .ok (.iload 5, 2) := by decide +kernel
theorem dX11_unlike_23 : decode cX11_unlike 23 = .ok (.aload_n 0, 1) := by decide +kernel
theorem dX11_unlike_24 : decode cX11_unlike 24 = .ok (.getfield 52, 3) := by decide +kernel
theorem dX11_unlike_27 : decode cX11_unlike 27 = .ok (.invokevirtual 254, 3) := by decide +kernel
theorem dX11_unlike_30 : decode cX11_unlike 30 = .ok (.if_icmp .ge 50, 3) := by decide +kernel
theorem dX11_unlike_33 : decode cX11_unlike 33 = .ok (.aload_n 0, 1) := by decide +kernel
theorem dX11_unlike_34 : decode cX11_unlike 34 = .ok (.getfield 61, 3) := by decide +kernel
theorem dX11_unlike_37 : decode cX11_unlike 37 = .ok (.aload_n 0, 1) := by decide +kernel
theorem dX11_unlike_38 : decode cX11_unlike 38 = .ok (.getfield 42, 3) := by decide +kernel
theorem dX11_unlike_41 : decode cX11_unlike 41 = .ok (.aload_n 0, 1) := by decide +kernel
theorem dX11_unlike_42 : decode cX11_unlike 42 = .ok (.getfield 46, 3) := by decide +kernel
theorem dX11_unlike_45 : decode cX11_unlike 45 = .ok (.iload 5, 2) := by decide +kernel
theorem dX11_unlike_47 : decode cX11_unlike 47 = .ok (.invokevirtual 277, 3) := by decide +kernel
theorem dX11_unlike_50 : decode cX11_unlike 50 = .ok (.istore 6, 2) := by decide +kernel
theorem dX11_unlike_52 : decode cX11_unlike 52 = .ok (.iload 6, 2) := by decide +kernel
theorem dX11_unlike_54 : decode cX11_unlike 54 = .ok (.ifCond .le 6, 3) := by decide +kernel
theorem dX11_unlike_57 : decode cX11_unlike 57 = .ok (.iinc 2 1, 3) := by decide +kernel
theorem dX11_unlike_60 : decode cX11_unlike 60 = .ok (.iload 6, 2) := by decide +kernel
theorem dX11_unlike_62 : decode cX11_unlike 62 = .ok (.iload 4, 2) := by decide +kernel
theorem dX11_unlike_64 : decode cX11_unlike 64 = .ok (.if_icmp .le 10, 3) := by decide +kernel
theorem dX11_unlike_67 : decode cX11_unlike 67 = .ok (.iload 6, 2) := by decide +kernel
theorem dX11_unlike_69 : decode cX11_unlike 69 = .ok (.istore 4, 2) := by decide +kernel
theorem dX11_unlike_71 : decode cX11_unlike 71 = .ok (.iload 5, 2) := by decide +kernel
theorem dX11_unlike_73 : decode cX11_unlike 73 = .ok (.istore_n 3, 1) := by decide +kernel
theorem dX11_unlike_74 : decode cX11_unlike 74 = .ok (.iinc 5 1, 3) := by decide +kernel
theorem dX11_unlike_77 : decode cX11_unlike 77 = .ok (.goto (-56), 3) := by decide +kernel
theorem dX11_unlike_80 : decode cX11_unlike 80 = .ok (.iload_n 1, 1) := by decide +kernel
theorem dX11_unlike_81 : decode cX11_unlike 81 = .ok (.ifCond .ne 7, 3) := by decide +kernel
theorem dX11_unlike_84 : decode cX11_unlike 84 = .ok (.iload_n 2, 1) := by decide +kernel
theorem dX11_unlike_85 : decode cX11_unlike 85 = .ok (.goto 4, 3) := by decide +kernel
theorem dX11_unlike_88 : decode cX11_unlike 88 = .ok (.iload_n 3, 1) := by decide +kernel
theorem dX11_unlike_89 : decode cX11_unlike 89 = .ok (.ireturn, 1) := by decide +kernel
theorem dX11_holderOf_0 : decode cX11_holderOf 0 = .ok (.iload_n 1, 1) := by decide +kernel
theorem dX11_holderOf_1 : decode cX11_holderOf 1 = .ok (.ifCond .ne 10, 3) := by decide +kernel
theorem dX11_holderOf_4 : decode cX11_holderOf 4 = .ok (.aload_n 0, 1) := by decide +kernel
theorem dX11_holderOf_5 : decode cX11_holderOf 5 = .ok (.getfield 42, 3) := by decide +kernel
theorem dX11_holderOf_8 : decode cX11_holderOf 8 = .ok (.goto 7, 3) := by decide +kernel
theorem dX11_holderOf_11 : decode cX11_holderOf 11 = .ok (.aload_n 0, 1) := by decide +kernel
theorem dX11_holderOf_12 : decode cX11_holderOf 12 = .ok (.getfield 46, 3) := by decide +kernel
theorem dX11_holderOf_15 : decode cX11_holderOf 15 = .ok (.areturn, 1) := by decide +kernel
theorem dX11_speed_0 : decode cX11_speed 0 = .ok (.iload_n 1, 1) := by decide +kernel
theorem dX11_speed_1 : decode cX11_speed 1 = .ok (.bipush 8, 2) := by decide +kernel
theorem dX11_speed_3 : decode cX11_speed 3 = .ok (.invokestatic 94, 3) := by decide +kernel
theorem dX11_speed_6 : decode cX11_speed 6 = .ok (.ifCond .eq 14, 3) := by decide +kernel
theorem dX11_speed_9 : decode cX11_speed 9 = .ok (.aload_n 0, 1) := by decide +kernel
theorem dX11_speed_10 : decode cX11_speed 10 = .ok (.getfield 70, 3) := by decide +kernel
theorem dX11_speed_13 : decode cX11_speed 13 = .ok (.iload_n 1, 1) := by decide +kernel
theorem dX11_speed_14 : decode cX11_speed 14 = .ok (.invokevirtual 281, 3) := by decide +kernel
theorem dX11_speed_17 : decode cX11_speed 17 = .ok (.goto 5, 3) := by decide +kernel
theorem dX11_speed_20 : decode cX11_speed 20 = .ok (.bipush (-102), 2) := by decide +kernel
theorem dX11_speed_22 : decode cX11_speed 22 = .ok (.ireturn, 1) := by decide +kernel
theorem dX11_claim_0 : decode cX11_claim 0 = .ok (.iload_n 1, 1) := by decide +kernel
theorem dX11_claim_1 : decode cX11_claim 1 = .ok (.iload_n 2, 1) := by decide +kernel
theorem dX11_claim_2 : decode cX11_claim 2 = .ok (.invokestatic 155, 3) := by decide +kernel
theorem dX11_claim_5 : decode cX11_claim 5 = .ok (.ifCond .ne 6, 3) := by decide +kernel
theorem dX11_claim_8 : decode cX11_claim 8 = .ok (.bipush (-101), 2) := by decide +kernel
theorem dX11_claim_10 : decode cX11_claim 10 = .ok (.ireturn, 1) := by decide +kernel
theorem dX11_claim_11 : decode cX11_claim 11 = .ok (.iload_n 3, 1) := by decide +kernel
theorem dX11_claim_12 : decode cX11_claim 12 = .ok (.bipush 10, 2) := by decide +kernel
theorem dX11_claim_14 : decode cX11_claim 14 = .ok (.invokestatic 94, 3) := by decide +kernel
theorem dX11_claim_17 : decode cX11_claim 17 = .ok (.ifCond .eq 16, 3) := by decide +kernel
theorem dX11_claim_20 : decode cX11_claim 20 = .ok (.iload 5, 2) := by decide +kernel
theorem dX11_claim_22 : decode cX11_claim 22 = .ok (.iconst 1, 1) := by decide +kernel
theorem dX11_claim_23 : decode cX11_claim 23 = .ok (.if_icmp .lt 10, 3) := by decide +kernel
theorem dX11_claim_26 : decode cX11_claim 26 = .ok (.iload 5, 2) := by decide +kernel
theorem dX11_claim_28 : decode cX11_claim 28 = .ok (.bipush 99, 2) := by decide +kernel
theorem dX11_claim_30 : decode cX11_claim 30 = .ok (.if_icmp .le 6, 3) := by decide +kernel
theorem dX11_claim_33 : decode cX11_claim 33 = .ok (.bipush (-102), 2) := by decide +kernel
theorem dX11_claim_35 : decode cX11_claim 35 = .ok (.ireturn, 1) := by decide +kernel
theorem dX11_claim_36 : decode cX11_claim 36 = .ok (.aload_n 0, 1) := by decide +kernel
theorem dX11_claim_37 : decode cX11_claim 37 = .ok (.getfield 70, 3) := by decide +kernel
theorem dX11_claim_40 : decode cX11_claim 40 = .ok (.invokevirtual 284, 3) := by decide +kernel
theorem dX11_claim_43 : decode cX11_claim 43 = .ok (.ifCond .eq 8, 3) := by decide +kernel
theorem dX11_claim_46 : decode cX11_claim 46 = .ok (.bipush (-104), 2) := by decide +kernel
theorem dX11_claim_48 : decode cX11_claim 48 = .ok (.goto 17, 3) := by decide +kernel
theorem dX11_claim_51 : decode cX11_claim 51 = .ok (.aload_n 0, 1) := by decide +kernel
theorem dX11_claim_52 : decode cX11_claim 52 = .ok (.getfield 70, 3) := by decide +kernel
theorem dX11_claim_55 : decode cX11_claim 55 = .ok (.iload_n 1, 1) := by decide +kernel
theorem dX11_claim_56 : decode cX11_claim 56 = .ok (.iload_n 2, 1) := by decide +kernel
theorem dX11_claim_57 : decode cX11_claim 57 = .ok (.iload_n 3, 1) := by decide +kernel
theorem dX11_claim_58 : decode cX11_claim 58 = .ok (.iload 4, 2) := by decide +kernel
theorem dX11_claim_60 : decode cX11_claim 60 = .ok (.iload 5, 2) := by decide +kernel
theorem dX11_claim_62 : decode cX11_claim 62 = .ok (.invokevirtual 285, 3) := by decide +kernel
theorem dX11_claim_65 : decode cX11_claim 65 = .ok (.ireturn, 1) := by decide +kernel
theorem dX11_story_0 : decode cX11_story 0 = .ok (.iload_n 1, 1) := by decide +kernel
theorem dX11_story_1 : decode cX11_story 1 = .ok (.invokestatic 90, 3) := by decide +kernel
theorem dX11_story_4 : decode cX11_story 4 = .ok (.ifCond .ne 6, 3) := by decide +kernel
theorem dX11_story_7 : decode cX11_story 7 = .ok (.bipush (-101), 2) := by decide +kernel
theorem dX11_story_9 : decode cX11_story 9 = .ok (.ireturn, 1) := by decide +kernel
theorem dX11_story_10 : decode cX11_story 10 = .ok (.iload_n 2, 1) := by decide +kernel
theorem dX11_story_11 : decode cX11_story 11 = .ok (.ifCond .eq 18, 3) := by decide +kernel
theorem dX11_story_14 : decode cX11_story 14 = .ok (.iload_n 2, 1) := by decide +kernel
theorem dX11_story_15 : decode cX11_story 15 = .ok (.bipush 10, 2) := by decide +kernel
theorem dX11_story_17 : decode cX11_story 17 = .ok (.isub, 1) := by decide +kernel
theorem dX11_story_18 : decode cX11_story 18 = .ok (.bipush 10, 2) := by decide +kernel
theorem dX11_story_20 : decode cX11_story 20 = .ok (.invokestatic 94, 3) := by decide +kernel
theorem dX11_story_23 : decode cX11_story 23 = .ok (.ifCond .ne 6, 3) := by decide +kernel
theorem dX11_story_26 : decode cX11_story 26 = .ok (.bipush (-102), 2) := by decide +kernel
theorem dX11_story_28 : decode cX11_story 28 = .ok (.ireturn, 1) := by decide +kernel
theorem dX11_story_29 : decode cX11_story 29 = .ok (.aload_n 0, 1) := by decide +kernel
theorem dX11_story_30 : decode cX11_story 30 = .ok (.getfield 70, 3) := by decide +kernel
theorem dX11_story_33 : decode cX11_story 33 = .ok (.iload_n 1, 1) := by decide +kernel
theorem dX11_story_34 : decode cX11_story 34 = .ok (.invokevirtual 288, 3) := by decide +kernel
theorem dX11_story_37 : decode cX11_story 37 = .ok (.iload_n 2, 1) := by decide +kernel
theorem dX11_story_38 : decode cX11_story 38 = .ok (.ifCond .ne 13, 3) := by decide +kernel
theorem dX11_story_41 : decode cX11_story 41 = .ok (.aload_n 0, 1) := by decide +kernel
theorem dX11_story_42 : decode cX11_story 42 = .ok (.getfield 70, 3) := by decide +kernel
theorem dX11_story_45 : decode cX11_story 45 = .ok (.invokevirtual 292, 3) := by decide +kernel
theorem dX11_story_48 : decode cX11_story 48 = .ok (.goto 14, 3) := by decide +kernel
theorem dX11_story_51 : decode cX11_story 51 = .ok (.aload_n 0, 1) := by decide +kernel
theorem dX11_story_52 : decode cX11_story 52 = .ok (.getfield 70, 3) := by decide +kernel
theorem dX11_story_55 : decode cX11_story 55 = .ok (.iload_n 2, 1) := by decide +kernel
theorem dX11_story_56 : decode cX11_story 56 = .ok (.bipush 10, 2) := by decide +kernel
theorem dX11_story_58 : decode cX11_story 58 = .ok (.isub, 1) := by decide +kernel
theorem dX11_story_59 : decode cX11_story 59 = .ok (.invokevirtual 295, 3) := by decide +kernel
theorem dX11_story_62 : decode cX11_story 62 = .ok (.ireturn, 1) := by decide +kernel
theorem dX11_judge_0 : decode cX11_judge 0 = .ok (.iload_n 1, 1) := by decide +kernel
theorem dX11_judge_1 : decode cX11_judge 1 = .ok (.invokestatic 90, 3) := by decide +kernel
theorem dX11_judge_4 : decode cX11_judge 4 = .ok (.ifCond .ne 6, 3) := by decide +kernel
theorem dX11_judge_7 : decode cX11_judge 7 = .ok (.bipush (-101), 2) := by decide +kernel
theorem dX11_judge_9 : decode cX11_judge 9 = .ok (.ireturn, 1) := by decide +kernel
theorem dX11_judge_10 : decode cX11_judge 10 = .ok (.lload_n 2, 1) := by decide +kernel
theorem dX11_judge_11 : decode cX11_judge 11 = .ok (.lconst 0, 1) := by decide +kernel
theorem dX11_judge_12 : decode cX11_judge 12 = .ok (.lcmp, 1) := by decide +kernel
theorem dX11_judge_13 : decode cX11_judge 13 = .ok (.ifCond .lt 12, 3) := by decide +kernel
theorem dX11_judge_16 : decode cX11_judge 16 = .ok (.lload_n 2, 1) := by decide +kernel
theorem dX11_judge_17 : decode cX11_judge 17 = .ok (.bipush 40, 2) := by decide +kernel
theorem dX11_judge_19 : decode cX11_judge 19 = .ok (.lshr, 1) := by decide +kernel
theorem dX11_judge_20 : decode cX11_judge 20 = .ok (.lconst 0, 1) := by decide +kernel
theorem dX11_judge_21 : decode cX11_judge 21 = .ok (.lcmp, 1) := by decide +kernel
theorem dX11_judge_22 : decode cX11_judge 22 = .ok (.ifCond .eq 6, 3) := by decide +kernel
theorem dX11_judge_25 : decode cX11_judge 25 = .ok (.bipush (-102), 2) := by decide +kernel
theorem dX11_judge_27 : decode cX11_judge 27 = .ok (.ireturn, 1) := by decide +kernel
theorem dX11_judge_28 : decode cX11_judge 28 = .ok (.aload_n 0, 1) := by decide +kernel
theorem dX11_judge_29 : decode cX11_judge 29 = .ok (.getfield 70, 3) := by decide +kernel
theorem dX11_judge_32 : decode cX11_judge 32 = .ok (.iload_n 1, 1) := by decide +kernel
theorem dX11_judge_33 : decode cX11_judge 33 = .ok (.lload_n 2, 1) := by decide +kernel
theorem dX11_judge_34 : decode cX11_judge 34 = .ok (.invokevirtual 298, 3) := by decide +kernel
theorem dX11_judge_37 : decode cX11_judge 37 = .ok (.ireturn, 1) := by decide +kernel
theorem dX11_pole_0 : decode cX11_pole 0 = .ok (.iload_n 1, 1) := by decide +kernel
theorem dX11_pole_1 : decode cX11_pole 1 = .ok (.iconst (-1), 1) := by decide +kernel
theorem dX11_pole_2 : decode cX11_pole 2 = .ok (.if_icmp .eq 10, 3) := by decide +kernel
theorem dX11_pole_5 : decode cX11_pole 5 = .ok (.iload_n 1, 1) := by decide +kernel
theorem dX11_pole_6 : decode cX11_pole 6 = .ok (.invokestatic 90, 3) := by decide +kernel
theorem dX11_pole_9 : decode cX11_pole 9 = .ok (.ifCond .eq 15, 3) := by decide +kernel
theorem dX11_pole_12 : decode cX11_pole 12 = .ok (.iload_n 2, 1) := by decide +kernel
theorem dX11_pole_13 : decode cX11_pole 13 = .ok (.iconst (-1), 1) := by decide +kernel
theorem dX11_pole_14 : decode cX11_pole 14 = .ok (.if_icmp .eq 13, 3) := by decide +kernel
theorem dX11_pole_17 : decode cX11_pole 17 = .ok (.iload_n 2, 1) := by decide +kernel
theorem dX11_pole_18 : decode cX11_pole 18 = .ok (.invokestatic 90, 3) := by decide +kernel
theorem dX11_pole_21 : decode cX11_pole 21 = .ok (.ifCond .ne 6, 3) := by decide +kernel
theorem dX11_pole_24 : decode cX11_pole 24 = .ok (.bipush (-101), 2) := by decide +kernel
theorem dX11_pole_26 : decode cX11_pole 26 = .ok (.ireturn, 1) := by decide +kernel
theorem dX11_pole_27 : decode cX11_pole 27 = .ok (.iload_n 3, 1) := by decide +kernel
theorem dX11_pole_28 : decode cX11_pole 28 = .ok (.bipush 16, 2) := by decide +kernel
theorem dX11_pole_30 : decode cX11_pole 30 = .ok (.invokestatic 94, 3) := by decide +kernel
theorem dX11_pole_33 : decode cX11_pole 33 = .ok (.ifCond .eq 12, 3) := by decide +kernel
theorem dX11_pole_36 : decode cX11_pole 36 = .ok (.iload 4, 2) := by decide +kernel
theorem dX11_pole_38 : decode cX11_pole 38 = .ok (.iconst 3, 1) := by decide +kernel
theorem dX11_pole_39 : decode cX11_pole 39 = .ok (.invokestatic 94, 3) := by decide +kernel
theorem dX11_pole_42 : decode cX11_pole 42 = .ok (.ifCond .ne 6, 3) := by decide +kernel
theorem dX11_pole_45 : decode cX11_pole 45 = .ok (.bipush (-102), 2) := by decide +kernel
theorem dX11_pole_47 : decode cX11_pole 47 = .ok (.ireturn, 1) := by decide +kernel
theorem dX11_pole_48 : decode cX11_pole 48 = .ok (.aload_n 0, 1) := by decide +kernel
theorem dX11_pole_49 : decode cX11_pole 49 = .ok (.getfield 79, 3) := by decide +kernel
theorem dX11_pole_52 : decode cX11_pole 52 = .ok (.iload_n 1, 1) := by decide +kernel
theorem dX11_pole_53 : decode cX11_pole 53 = .ok (.iload_n 2, 1) := by decide +kernel
theorem dX11_pole_54 : decode cX11_pole 54 = .ok (.iload_n 3, 1) := by decide +kernel
theorem dX11_pole_55 : decode cX11_pole 55 = .ok (.invokevirtual 302, 3) := by decide +kernel
theorem dX11_pole_58 : decode cX11_pole 58 = .ok (.iload 4, 2) := by decide +kernel
theorem dX11_pole_60 : decode cX11_pole 60 = .ok (.lookupswitch 44 #[(0, 28), (1, 36)], 28) := by decide +kernel
theorem dX11_pole_88 : decode cX11_pole 88 = .ok (.aload_n 0, 1) := by decide +kernel
theorem dX11_pole_89 : decode cX11_pole 89 = .ok (.getfield 79, 3) := by decide +kernel
theorem dX11_pole_92 : decode cX11_pole 92 = .ok (.getfield 305, 3) := by decide +kernel
theorem dX11_pole_95 : decode cX11_pole 95 = .ok (.ireturn, 1) := by decide +kernel
theorem dX11_pole_96 : decode cX11_pole 96 = .ok (.aload_n 0, 1) := by decide +kernel
theorem dX11_pole_97 : decode cX11_pole 97 = .ok (.getfield 79, 3) := by decide +kernel
theorem dX11_pole_100 : decode cX11_pole 100 = .ok (.getfield 308, 3) := by decide +kernel
theorem dX11_pole_103 : decode cX11_pole 103 = .ok (.ireturn, 1) := by decide +kernel
theorem dX11_pole_104 : decode cX11_pole 104 = .ok (.aload_n 0, 1) := by decide +kernel
theorem dX11_pole_105 : decode cX11_pole 105 = .ok (.getfield 79, 3) := by decide +kernel
theorem dX11_pole_108 : decode cX11_pole 108 = .ok (.getfield 311, 3) := by decide +kernel
theorem dX11_pole_111 : decode cX11_pole 111 = .ok (.ireturn, 1) := by decide +kernel
theorem dX11_floor_0 : decode cX11_floor 0 = .ok (.iload_n 1, 1) := by decide +kernel
theorem dX11_floor_1 : decode cX11_floor 1 = .ok (.ifCond .lt 10, 3) := by decide +kernel
theorem dX11_floor_4 : decode cX11_floor 4 = .ok (.iload_n 1, 1) := by decide +kernel
theorem dX11_floor_5 : decode cX11_floor 5 = .ok (.ldc_w 314, 3) := by decide +kernel
theorem dX11_floor_8 : decode cX11_floor 8 = .ok (.if_icmp .le 8, 3) := by decide +kernel
theorem dX11_floor_11 : decode cX11_floor 11 = .ok (.bipush (-102), 2) := by decide +kernel
theorem dX11_floor_13 : decode cX11_floor 13 = .ok (.goto 11, 3) := by decide +kernel
theorem dX11_floor_16 : decode cX11_floor 16 = .ok (.aload_n 0, 1) := by decide +kernel
theorem dX11_floor_17 : decode cX11_floor 17 = .ok (.getfield 86, 3) := by decide +kernel
theorem dX11_floor_20 : decode cX11_floor 20 = .ok (.iload_n 1, 1) := by decide +kernel
theorem dX11_floor_21 : decode cX11_floor 21 = .ok (.invokevirtual 315, 3) := by decide +kernel
theorem dX11_floor_24 : decode cX11_floor 24 = .ok (.ireturn, 1) := by decide +kernel
theorem dX11_mirror_0 : decode cX11_mirror 0 = .ok (.iload_n 1, 1) := by decide +kernel
theorem dX11_mirror_1 : decode cX11_mirror 1 = .ok (.iconst 1, 1) := by decide +kernel
theorem dX11_mirror_2 : decode cX11_mirror 2 = .ok (.if_icmp .lt 9, 3) := by decide +kernel
theorem dX11_mirror_5 : decode cX11_mirror 5 = .ok (.iload_n 1, 1) := by decide +kernel
theorem dX11_mirror_6 : decode cX11_mirror 6 = .ok (.bipush 24, 2) := by decide +kernel
theorem dX11_mirror_8 : decode cX11_mirror 8 = .ok (.if_icmp .lt 8, 3) := by decide +kernel
theorem dX11_mirror_11 : decode cX11_mirror 11 = .ok (.bipush (-102), 2) := by decide +kernel
theorem dX11_mirror_13 : decode cX11_mirror 13 = .ok (.goto 11, 3) := by decide +kernel
theorem dX11_mirror_16 : decode cX11_mirror 16 = .ok (.aload_n 0, 1) := by decide +kernel
theorem dX11_mirror_17 : decode cX11_mirror 17 = .ok (.getfield 86, 3) := by decide +kernel
theorem dX11_mirror_20 : decode cX11_mirror 20 = .ok (.iload_n 1, 1) := by decide +kernel
theorem dX11_mirror_21 : decode cX11_mirror 21 = .ok (.invokevirtual 318, 3) := by decide +kernel
theorem dX11_mirror_24 : decode cX11_mirror 24 = .ok (.ireturn, 1) := by decide +kernel
theorem dX11_ridge_0 : decode cX11_ridge 0 = .ok (.aload_n 0, 1) := by decide +kernel
theorem dX11_ridge_1 : decode cX11_ridge 1 = .ok (.getfield 86, 3) := by decide +kernel
theorem dX11_ridge_4 : decode cX11_ridge 4 = .ok (.invokevirtual 321, 3) := by decide +kernel
theorem dX11_ridge_7 : decode cX11_ridge 7 = .ok (.ireturn, 1) := by decide +kernel
theorem dX11_count_0 : decode cX11_count 0 = .ok (.iload_n 1, 1) := by decide +kernel
theorem dX11_count_1 : decode cX11_count 1 = .ok (.tableswitch 99 0 6 #[43, 51, 59, 67, 75, 83, 91], 43) := by decide +kernel
theorem dX11_count_44 : decode cX11_count 44 = .ok (.aload_n 0, 1) := by decide +kernel
theorem dX11_count_45 : decode cX11_count 45 = .ok (.getfield 10, 3) := by decide +kernel
theorem dX11_count_48 : decode cX11_count 48 = .ok (.invokevirtual 324, 3) := by decide +kernel
theorem dX11_count_51 : decode cX11_count 51 = .ok (.ireturn, 1) := by decide +kernel
theorem dX11_count_52 : decode cX11_count 52 = .ok (.aload_n 0, 1) := by decide +kernel
theorem dX11_count_53 : decode cX11_count 53 = .ok (.getfield 21, 3) := by decide +kernel
theorem dX11_count_56 : decode cX11_count 56 = .ok (.invokevirtual 130, 3) := by decide +kernel
theorem dX11_count_59 : decode cX11_count 59 = .ok (.ireturn, 1) := by decide +kernel
theorem dX11_count_60 : decode cX11_count 60 = .ok (.aload_n 0, 1) := by decide +kernel
theorem dX11_count_61 : decode cX11_count 61 = .ok (.getfield 42, 3) := by decide +kernel
theorem dX11_count_64 : decode cX11_count 64 = .ok (.invokevirtual 246, 3) := by decide +kernel
theorem dX11_count_67 : decode cX11_count 67 = .ok (.ireturn, 1) := by decide +kernel
theorem dX11_count_68 : decode cX11_count 68 = .ok (.aload_n 0, 1) := by decide +kernel
theorem dX11_count_69 : decode cX11_count 69 = .ok (.getfield 46, 3) := by decide +kernel
theorem dX11_count_72 : decode cX11_count 72 = .ok (.invokevirtual 246, 3) := by decide +kernel
theorem dX11_count_75 : decode cX11_count 75 = .ok (.ireturn, 1) := by decide +kernel
theorem dX11_count_76 : decode cX11_count 76 = .ok (.aload_n 0, 1) := by decide +kernel
theorem dX11_count_77 : decode cX11_count 77 = .ok (.getfield 52, 3) := by decide +kernel
theorem dX11_count_80 : decode cX11_count 80 = .ok (.invokevirtual 254, 3) := by decide +kernel
theorem dX11_count_83 : decode cX11_count 83 = .ok (.ireturn, 1) := by decide +kernel
theorem dX11_count_84 : decode cX11_count 84 = .ok (.aload_n 0, 1) := by decide +kernel
theorem dX11_count_85 : decode cX11_count 85 = .ok (.getfield 70, 3) := by decide +kernel
theorem dX11_count_88 : decode cX11_count 88 = .ok (.invokevirtual 327, 3) := by decide +kernel
theorem dX11_count_91 : decode cX11_count 91 = .ok (.ireturn, 1) := by decide +kernel
theorem dX11_count_92 : decode cX11_count 92 = .ok (.aload_n 0, 1) := by decide +kernel
theorem dX11_count_93 : decode cX11_count 93 = .ok (.getfield 35, 3) := by decide +kernel
theorem dX11_count_96 : decode cX11_count 96 = .ok (.invokevirtual 328, 3) := by decide +kernel
theorem dX11_count_99 : decode cX11_count 99 = .ok (.ireturn, 1) := by decide +kernel
theorem dX11_count_100 : decode cX11_count 100 = .ok (.bipush (-102), 2) := by decide +kernel
theorem dX11_count_102 : decode cX11_count 102 = .ok (.ireturn, 1) := by decide +kernel
theorem dX11_digest_0 : decode cX11_digest 0 = .ok (.aload_n 0, 1) := by decide +kernel
theorem dX11_digest_1 : decode cX11_digest 1 = .ok (.getfield 10, 3) := by decide +kernel
theorem dX11_digest_4 : decode cX11_digest 4 = .ok (.ldc2_w 329, 3) := by decide +kernel
theorem dX11_digest_7 : decode cX11_digest 7 = .ok (.invokevirtual 331, 3) := by decide +kernel
theorem dX11_digest_10 : decode cX11_digest 10 = .ok (.lstore_n 1, 1) := by decide +kernel
theorem dX11_digest_11 : decode cX11_digest 11 = .ok (.aload_n 0, 1) := by decide +kernel
theorem dX11_digest_12 : decode cX11_digest 12 = .ok (.getfield 21, 3) := by decide +kernel
theorem dX11_digest_15 : decode cX11_digest 15 = .ok (.lload_n 1, 1) := by decide +kernel
theorem dX11_digest_16 : decode cX11_digest 16 = .ok (.invokevirtual 335, 3) := by decide +kernel
theorem dX11_digest_19 : decode cX11_digest 19 = .ok (.lstore_n 1, 1) := by decide +kernel
theorem dX11_digest_20 : decode cX11_digest 20 = .ok (.aload_n 0, 1) := by decide +kernel
theorem dX11_digest_21 : decode cX11_digest 21 = .ok (.getfield 10, 3) := by decide +kernel
theorem dX11_digest_24 : decode cX11_digest 24 = .ok (.lload_n 1, 1) := by decide +kernel
theorem dX11_digest_25 : decode cX11_digest 25 = .ok (.invokevirtual 338, 3) := by decide +kernel
theorem dX11_digest_28 : decode cX11_digest 28 = .ok (.lstore_n 1, 1) := by decide +kernel
theorem dX11_digest_29 : decode cX11_digest 29 = .ok (.aload_n 0, 1) := by decide +kernel
theorem dX11_digest_30 : decode cX11_digest 30 = .ok (.getfield 61, 3) := by decide +kernel
theorem dX11_digest_33 : decode cX11_digest 33 = .ok (.lload_n 1, 1) := by decide +kernel
theorem dX11_digest_34 : decode cX11_digest 34 = .ok (.aload_n 0, 1) := by decide +kernel
theorem dX11_digest_35 : decode cX11_digest 35 = .ok (.getfield 42, 3) := by decide +kernel
theorem dX11_digest_38 : decode cX11_digest 38 = .ok (.aload_n 0, 1) := by decide +kernel
theorem dX11_digest_39 : decode cX11_digest 39 = .ok (.getfield 46, 3) := by decide +kernel
theorem dX11_digest_42 : decode cX11_digest 42 = .ok (.invokevirtual 341, 3) := by decide +kernel
theorem dX11_digest_45 : decode cX11_digest 45 = .ok (.lstore_n 1, 1) := by decide +kernel
theorem dX11_digest_46 : decode cX11_digest 46 = .ok (.aload_n 0, 1) := by decide +kernel
theorem dX11_digest_47 : decode cX11_digest 47 = .ok (.getfield 70, 3) := by decide +kernel
theorem dX11_digest_50 : decode cX11_digest 50 = .ok (.lload_n 1, 1) := by decide +kernel
theorem dX11_digest_51 : decode cX11_digest 51 = .ok (.invokevirtual 344, 3) := by decide +kernel
theorem dX11_digest_54 : decode cX11_digest 54 = .ok (.lstore_n 1, 1) := by decide +kernel
theorem dX11_digest_55 : decode cX11_digest 55 = .ok (.aload_n 0, 1) := by decide +kernel
theorem dX11_digest_56 : decode cX11_digest 56 = .ok (.getfield 86, 3) := by decide +kernel
theorem dX11_digest_59 : decode cX11_digest 59 = .ok (.lload_n 1, 1) := by decide +kernel
theorem dX11_digest_60 : decode cX11_digest 60 = .ok (.invokevirtual 345, 3) := by decide +kernel
theorem dX11_digest_63 : decode cX11_digest 63 = .ok (.lstore_n 1, 1) := by decide +kernel
theorem dX11_digest_64 : decode cX11_digest 64 = .ok (.aload_n 0, 1) := by decide +kernel
theorem dX11_digest_65 : decode cX11_digest 65 = .ok (.getfield 35, 3) := by decide +kernel
theorem dX11_digest_68 : decode cX11_digest 68 = .ok (.lload_n 1, 1) := by decide +kernel
theorem dX11_digest_69 : decode cX11_digest 69 = .ok (.invokevirtual 346, 3) := by decide +kernel
theorem dX11_digest_72 : decode cX11_digest 72 = .ok (.lstore_n 1, 1) := by decide +kernel
theorem dX11_digest_73 : decode cX11_digest 73 = .ok (.iconst 0, 1) := by decide +kernel
theorem dX11_digest_74 : decode cX11_digest 74 = .ok (.istore_n 3, 1) := by decide +kernel
theorem dX11_digest_75 : decode cX11_digest 75 = .ok (.iload_n 3, 1) := by decide +kernel
theorem dX11_digest_76 : decode cX11_digest 76 = .ok (.bipush 6, 2) := by decide +kernel
theorem dX11_digest_78 : decode cX11_digest 78 = .ok (.if_icmp .gt 20, 3) := by decide +kernel
theorem dX11_digest_81 : decode cX11_digest 81 = .ok (.lload_n 1, 1) := by decide +kernel
theorem dX11_digest_82 : decode cX11_digest 82 = .ok (.aload_n 0, 1) := by decide +kernel
theorem dX11_digest_83 : decode cX11_digest 83 = .ok (.iload_n 3, 1) := by decide +kernel
theorem dX11_digest_84 : decode cX11_digest 84 = .ok (.invokevirtual 347, 3) := by decide +kernel
theorem dX11_digest_87 : decode cX11_digest 87 = .ok (.i2l, 1) := by decide +kernel
theorem dX11_digest_88 : decode cX11_digest 88 = .ok (.invokestatic 350, 3) := by decide +kernel
theorem dX11_digest_91 : decode cX11_digest 91 = .ok (.lstore_n 1, 1) := by decide +kernel
theorem dX11_digest_92 : decode cX11_digest 92 = .ok (.iinc 3 1, 3) := by decide +kernel
theorem dX11_digest_95 : decode cX11_digest 95 = .ok (.goto (-20), 3) := by decide +kernel
theorem dX11_digest_98 : decode cX11_digest 98 = .ok (.lload_n 1, 1) := by decide +kernel
theorem dX11_digest_99 : decode cX11_digest 99 = .ok (.lreturn, 1) := by decide +kernel
theorem dX11_then_0 : decode cX11_then 0 = .ok (.ldc2_w 354, 3) := by decide +kernel
theorem dX11_then_3 : decode cX11_then 3 = .ok (.lload_n 0, 1) := by decide +kernel
theorem dX11_then_4 : decode cX11_then 4 = .ok (.lmul, 1) := by decide +kernel
theorem dX11_then_5 : decode cX11_then 5 = .ok (.lload_n 2, 1) := by decide +kernel
theorem dX11_then_6 : decode cX11_then 6 = .ok (.ladd, 1) := by decide +kernel
theorem dX11_then_7 : decode cX11_then 7 = .ok (.lreturn, 1) := by decide +kernel
theorem dX11_within_0 : decode cX11_within 0 = .ok (.iload_n 0, 1) := by decide +kernel
theorem dX11_within_1 : decode cX11_within 1 = .ok (.ifCond .lt 12, 3) := by decide +kernel
theorem dX11_within_4 : decode cX11_within 4 = .ok (.iload_n 0, 1) := by decide +kernel
theorem dX11_within_5 : decode cX11_within 5 = .ok (.iload_n 1, 1) := by decide +kernel
theorem dX11_within_6 : decode cX11_within 6 = .ok (.if_icmp .ge 7, 3) := by decide +kernel
theorem dX11_within_9 : decode cX11_within 9 = .ok (.iconst 1, 1) := by decide +kernel
theorem dX11_within_10 : decode cX11_within 10 = .ok (.goto 4, 3) := by decide +kernel
theorem dX11_within_13 : decode cX11_within 13 = .ok (.iconst 0, 1) := by decide +kernel
theorem dX11_within_14 : decode cX11_within 14 = .ok (.ireturn, 1) := by decide +kernel
theorem dX11_isLand_0 : decode cX11_isLand 0 = .ok (.iload_n 0, 1) := by decide +kernel
theorem dX11_isLand_1 : decode cX11_isLand 1 = .ok (.bipush 6, 2) := by decide +kernel
theorem dX11_isLand_3 : decode cX11_isLand 3 = .ok (.invokestatic 94, 3) := by decide +kernel
theorem dX11_isLand_6 : decode cX11_isLand 6 = .ok (.ireturn, 1) := by decide +kernel
theorem dX11_areTwoLands_0 : decode cX11_areTwoLands 0 = .ok (.iload_n 0, 1) := by decide +kernel
theorem dX11_areTwoLands_1 : decode cX11_areTwoLands 1 = .ok (.invokestatic 90, 3) := by decide +kernel
theorem dX11_areTwoLands_4 : decode cX11_areTwoLands 4 = .ok (.ifCond .eq 19, 3) := by decide +kernel
theorem dX11_areTwoLands_7 : decode cX11_areTwoLands 7 = .ok (.iload_n 1, 1) := by decide +kernel
theorem dX11_areTwoLands_8 : decode cX11_areTwoLands 8 = .ok (.invokestatic 90, 3) := by decide +kernel
theorem dX11_areTwoLands_11 : decode cX11_areTwoLands 11 = .ok (.ifCond .eq 12, 3) := by decide +kernel
theorem dX11_areTwoLands_14 : decode cX11_areTwoLands 14 = .ok (.iload_n 0, 1) := by decide +kernel
theorem dX11_areTwoLands_15 : decode cX11_areTwoLands 15 = .ok (.iload_n 1, 1) := by decide +kernel
theorem dX11_areTwoLands_16 : decode cX11_areTwoLands 16 = .ok (.if_icmp .eq 7, 3) := by decide +kernel
theorem dX11_areTwoLands_19 : decode cX11_areTwoLands 19 = .ok (.iconst 1, 1) := by decide +kernel
theorem dX11_areTwoLands_20 : decode cX11_areTwoLands 20 = .ok (.goto 4, 3) := by decide +kernel
theorem dX11_areTwoLands_23 : decode cX11_areTwoLands 23 = .ok (.iconst 0, 1) := by decide +kernel
theorem dX11_areTwoLands_24 : decode cX11_areTwoLands 24 = .ok (.ireturn, 1) := by decide +kernel
theorem dX11_isPlace_0 : decode cX11_isPlace 0 = .ok (.iload_n 0, 1) := by decide +kernel
theorem dX11_isPlace_1 : decode cX11_isPlace 1 = .ok (.bipush (-7), 2) := by decide +kernel
theorem dX11_isPlace_3 : decode cX11_isPlace 3 = .ok (.if_icmp .lt 22, 3) := by decide +kernel
theorem dX11_isPlace_6 : decode cX11_isPlace 6 = .ok (.iload_n 0, 1) := by decide +kernel
theorem dX11_isPlace_7 : decode cX11_isPlace 7 = .ok (.bipush 7, 2) := by decide +kernel
theorem dX11_isPlace_9 : decode cX11_isPlace 9 = .ok (.if_icmp .gt 16, 3) := by decide +kernel
theorem dX11_isPlace_12 : decode cX11_isPlace 12 = .ok (.iload_n 1, 1) := by decide +kernel
theorem dX11_isPlace_13 : decode cX11_isPlace 13 = .ok (.bipush 16, 2) := by decide +kernel
theorem dX11_isPlace_15 : decode cX11_isPlace 15 = .ok (.invokestatic 94, 3) := by decide +kernel
theorem dX11_isPlace_18 : decode cX11_isPlace 18 = .ok (.ifCond .eq 7, 3) := by decide +kernel
theorem dX11_isPlace_21 : decode cX11_isPlace 21 = .ok (.iconst 1, 1) := by decide +kernel
theorem dX11_isPlace_22 : decode cX11_isPlace 22 = .ok (.goto 4, 3) := by decide +kernel
theorem dX11_isPlace_25 : decode cX11_isPlace 25 = .ok (.iconst 0, 1) := by decide +kernel
theorem dX11_isPlace_26 : decode cX11_isPlace 26 = .ok (.ireturn, 1) := by decide +kernel
theorem dX11_eastOf_0 : decode cX11_eastOf 0 = .ok (.iload_n 0, 1) := by decide +kernel
theorem dX11_eastOf_1 : decode cX11_eastOf 1 = .ok (.iload_n 1, 1) := by decide +kernel
theorem dX11_eastOf_2 : decode cX11_eastOf 2 = .ok (.iadd, 1) := by decide +kernel
theorem dX11_eastOf_3 : decode cX11_eastOf 3 = .ok (.bipush 15, 2) := by decide +kernel
theorem dX11_eastOf_5 : decode cX11_eastOf 5 = .ok (.iand, 1) := by decide +kernel
theorem dX11_eastOf_6 : decode cX11_eastOf 6 = .ok (.ireturn, 1) := by decide +kernel
theorem dX11_ringDistance_0 : decode cX11_ringDistance 0 = .ok (.iload_n 0, 1) := by decide +kernel
theorem dX11_ringDistance_1 : decode cX11_ringDistance 1 = .ok (.bipush 16, 2) := by decide +kernel
theorem dX11_ringDistance_3 : decode cX11_ringDistance 3 = .ok (.iload_n 1, 1) := by decide +kernel
theorem dX11_ringDistance_4 : decode cX11_ringDistance 4 = .ok (.isub, 1) := by decide +kernel
theorem dX11_ringDistance_5 : decode cX11_ringDistance 5 = .ok (.invokestatic 214, 3) := by decide +kernel
theorem dX11_ringDistance_8 : decode cX11_ringDistance 8 = .ok (.istore_n 2, 1) := by decide +kernel
theorem dX11_ringDistance_9 : decode cX11_ringDistance 9 = .ok (.iload_n 2, 1) := by decide +kernel
theorem dX11_ringDistance_10 : decode cX11_ringDistance 10 = .ok (.bipush 16, 2) := by decide +kernel
theorem dX11_ringDistance_12 : decode cX11_ringDistance 12 = .ok (.iload_n 2, 1) := by decide +kernel
theorem dX11_ringDistance_13 : decode cX11_ringDistance 13 = .ok (.isub, 1) := by decide +kernel
theorem dX11_ringDistance_14 : decode cX11_ringDistance 14 = .ok (.invokestatic 356, 3) := by decide +kernel
theorem dX11_ringDistance_17 : decode cX11_ringDistance 17 = .ok (.ireturn, 1) := by decide +kernel
theorem dX11_stepsBetween_0 : decode cX11_stepsBetween 0 = .ok (.iload_n 0, 1) := by decide +kernel
theorem dX11_stepsBetween_1 : decode cX11_stepsBetween 1 = .ok (.bipush 16, 2) := by decide +kernel
theorem dX11_stepsBetween_3 : decode cX11_stepsBetween 3 = .ok (.idiv, 1) := by decide +kernel
theorem dX11_stepsBetween_4 : decode cX11_stepsBetween 4 = .ok (.iload_n 1, 1) := by decide +kernel
theorem dX11_stepsBetween_5 : decode cX11_stepsBetween 5 = .ok (.bipush 16, 2) := by decide +kernel
theorem dX11_stepsBetween_7 : decode cX11_stepsBetween 7 = .ok (.idiv, 1) := by decide +kernel
theorem dX11_stepsBetween_8 : decode cX11_stepsBetween 8 = .ok (.isub, 1) := by decide +kernel
theorem dX11_stepsBetween_9 : decode cX11_stepsBetween 9 = .ok (.invokestatic 361, 3) := by decide +kernel
theorem dX11_stepsBetween_12 : decode cX11_stepsBetween 12 = .ok (.iload_n 0, 1) := by decide +kernel
theorem dX11_stepsBetween_13 : decode cX11_stepsBetween 13 = .ok (.bipush 16, 2) := by decide +kernel
theorem dX11_stepsBetween_15 : decode cX11_stepsBetween 15 = .ok (.irem, 1) := by decide +kernel
theorem dX11_stepsBetween_16 : decode cX11_stepsBetween 16 = .ok (.iload_n 1, 1) := by decide +kernel
theorem dX11_stepsBetween_17 : decode cX11_stepsBetween 17 = .ok (.bipush 16, 2) := by decide +kernel
theorem dX11_stepsBetween_19 : decode cX11_stepsBetween 19 = .ok (.irem, 1) := by decide +kernel
theorem dX11_stepsBetween_20 : decode cX11_stepsBetween 20 = .ok (.invokestatic 364, 3) := by decide +kernel
theorem dX11_stepsBetween_23 : decode cX11_stepsBetween 23 = .ok (.iadd, 1) := by decide +kernel
theorem dX11_stepsBetween_24 : decode cX11_stepsBetween 24 = .ok (.ireturn, 1) := by decide +kernel
theorem dX11_reduced_0 : decode cX11_reduced 0 = .ok (.iload_n 0, 1) := by decide +kernel
theorem dX11_reduced_1 : decode cX11_reduced 1 = .ok (.iload_n 1, 1) := by decide +kernel
theorem dX11_reduced_2 : decode cX11_reduced 2 = .ok (.invokestatic 356, 3) := by decide +kernel
theorem dX11_reduced_5 : decode cX11_reduced 5 = .ok (.istore_n 2, 1) := by decide +kernel
theorem dX11_reduced_6 : decode cX11_reduced 6 = .ok (.iload_n 2, 1) := by decide +kernel
theorem dX11_reduced_7 : decode cX11_reduced 7 = .ok (.iconst 1, 1) := by decide +kernel
theorem dX11_reduced_8 : decode cX11_reduced 8 = .ok (.if_icmp .le 25, 3) := by decide +kernel
theorem dX11_reduced_11 : decode cX11_reduced 11 = .ok (.iload_n 0, 1) := by decide +kernel
theorem dX11_reduced_12 : decode cX11_reduced 12 = .ok (.iload_n 2, 1) := by decide +kernel
theorem dX11_reduced_13 : decode cX11_reduced 13 = .ok (.irem, 1) := by decide +kernel
theorem dX11_reduced_14 : decode cX11_reduced 14 = .ok (.ifCond .ne 13, 3) := by decide +kernel
theorem dX11_reduced_17 : decode cX11_reduced 17 = .ok (.iload_n 1, 1) := by decide +kernel
theorem dX11_reduced_18 : decode cX11_reduced 18 = .ok (.iload_n 2, 1) := by decide +kernel
theorem dX11_reduced_19 : decode cX11_reduced 19 = .ok (.irem, 1) := by decide +kernel
theorem dX11_reduced_20 : decode cX11_reduced 20 = .ok (.ifCond .ne 7, 3) := by decide +kernel
theorem dX11_reduced_23 : decode cX11_reduced 23 = .ok (.iload_n 0, 1) := by decide +kernel
theorem dX11_reduced_24 : decode cX11_reduced 24 = .ok (.iload_n 2, 1) := by decide +kernel
theorem dX11_reduced_25 : decode cX11_reduced 25 = .ok (.idiv, 1) := by decide +kernel
theorem dX11_reduced_26 : decode cX11_reduced 26 = .ok (.ireturn, 1) := by decide +kernel
theorem dX11_reduced_27 : decode cX11_reduced 27 = .ok (.iinc 2 (-1), 3) := by decide +kernel
theorem dX11_reduced_30 : decode cX11_reduced 30 = .ok (.goto (-24), 3) := by decide +kernel
theorem dX11_reduced_33 : decode cX11_reduced 33 = .ok (.iload_n 0, 1) := by decide +kernel
theorem dX11_reduced_34 : decode cX11_reduced 34 = .ok (.ireturn, 1) := by decide +kernel
