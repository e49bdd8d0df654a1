theorem dX11_foretold_36 : decode cX11_foretold 36 = .ok (.iload 4, 2) := by decide +kernel
theorem dX11_foretold_38 : decode cX11_foretold 38 = .ok (.ifCond .eq 13, 3) := by decide +kernel
theorem dX11_foretold_41 : decode cX11_foretold 41 = .ok (.iload_n 1, 1) := by decide +kernel
theorem dX11_foretold_42 : decode cX11_foretold 42 = .ok (.iconst 1, 1) := by decide +kernel
theorem dX11_foretold_43 : decode cX11_foretold 43 = .ok (.bipush 60, 2) := by decide +kernel
theorem dX11_foretold_45 : decode cX11_foretold 45 = .ok (.invokestatic 100, 3) := by decide +kernel
theorem dX11_foretold_48 : decode cX11_foretold 48 = .ok (.ifCond .ne 5, 3) := by decide +kernel
theorem dX11_foretold_51 : decode cX11_foretold 51 = .ok (.iconst (-1), 1) := by decide +kernel
theorem dX11_foretold_52 : decode cX11_foretold 52 = .ok (.ireturn, 1) := by decide +kernel
theorem dX11_foretold_53 : decode cX11_foretold 53 = .ok (.aload_n 0, 1) := by decide +kernel
theorem dX11_foretold_54 : decode cX11_foretold 54 = .ok (.getfield 86, 3) := by decide +kernel
theorem dX11_foretold_57 : decode cX11_foretold 57 = .ok (.iconst 0, 1) := by decide +kernel
theorem dX11_foretold_58 : decode cX11_foretold 58 = .ok (.aload_n 0, 1) := by decide +kernel
theorem dX11_foretold_59 : decode cX11_foretold 59 = .ok (.getfield 80, 3) := by decide +kernel
theorem dX11_foretold_62 : decode cX11_foretold 62 = .ok (.getfield 83, 3) := by decide +kernel
theorem dX11_foretold_65 : decode cX11_foretold 65 = .ok (.iconst 0, 1) := by decide +kernel
theorem dX11_foretold_66 : decode cX11_foretold 66 = .ok (.bipush 117, 2) := by decide +kernel
theorem dX11_foretold_68 : decode cX11_foretold 68 = .ok (.invokestatic 87, 3) := by decide +kernel
theorem dX11_foretold_71 : decode cX11_foretold 71 = .ok (.iconst 0, 1) := by decide +kernel
theorem dX11_foretold_72 : decode cX11_foretold 72 = .ok (.istore 5, 2) := by decide +kernel
theorem dX11_foretold_74 : decode cX11_foretold 74 = .ok (.iload 5, 2) := by decide +kernel
theorem dX11_foretold_76 : decode cX11_foretold 76 = .ok (.iload_n 1, 1) := by decide +kernel
theorem dX11_foretold_77 : decode cX11_foretold 77 = .ok (.if_icmp .ge 27, 3) := by decide +kernel
theorem dX11_foretold_80 : decode cX11_foretold 80 = .ok (.aload_n 0, 1) := by decide +kernel
theorem dX11_foretold_81 : decode cX11_foretold 81 = .ok (.getfield 80, 3) := by decide +kernel
theorem dX11_foretold_84 : decode cX11_foretold 84 = .ok (.invokevirtual 142, 3) := by decide +kernel
theorem dX11_foretold_87 : decode cX11_foretold 87 = .ok (.ifCond .eq 17, 3) := by decide +kernel
theorem dX11_foretold_90 : decode cX11_foretold 90 = .ok (.aload_n 0, 1) := by decide +kernel
theorem dX11_foretold_91 : decode cX11_foretold 91 = .ok (.getfield 80, 3) := by decide +kernel
theorem dX11_foretold_94 : decode cX11_foretold 94 = .ok (.invokevirtual 146, 3) := by decide +kernel
theorem dX11_foretold_97 : decode cX11_foretold 97 = .ok (.pop, 1) := by decide +kernel
theorem dX11_foretold_98 : decode cX11_foretold 98 = .ok (.iinc 5 1, 3) := by decide +kernel
theorem dX11_foretold_101 : decode cX11_foretold 101 = .ok (.goto (-27), 3) := by decide +kernel
theorem dX11_foretold_104 : decode cX11_foretold 104 = .ok (.iload_n 2, 1) := by decide +kernel
theorem dX11_foretold_105 : decode cX11_foretold 105 = .ok (.ifCond .ne 14, 3) := by decide +kernel
theorem dX11_foretold_108 : decode cX11_foretold 108 = .ok (.aload_n 0, 1) := by decide +kernel
theorem dX11_foretold_109 : decode cX11_foretold 109 = .ok (.getfield 80, 3) := by decide +kernel
theorem dX11_foretold_112 : decode cX11_foretold 112 = .ok (.getfield 83, 3) := by decide +kernel
theorem dX11_foretold_115 : decode cX11_foretold 115 = .ok (.bipush 50, 2) := by decide +kernel
theorem dX11_foretold_117 : decode cX11_foretold 117 = .ok (.iaload, 1) := by decide +kernel
theorem dX11_foretold_118 : decode cX11_foretold 118 = .ok (.ireturn, 1) := by decide +kernel
theorem dX11_foretold_119 : decode cX11_foretold 119 = .ok (.iload_n 2, 1) := by decide +kernel
theorem dX11_foretold_120 : decode cX11_foretold 120 = .ok (.iconst 1, 1) := by decide +kernel
theorem dX11_foretold_121 : decode cX11_foretold 121 = .ok (.if_icmp .ne 18, 3) := by decide +kernel
theorem dX11_foretold_124 : decode cX11_foretold 124 = .ok (.aload_n 0, 1) := by decide +kernel
theorem dX11_foretold_125 : decode cX11_foretold 125 = .ok (.getfield 80, 3) := by decide +kernel
theorem dX11_foretold_128 : decode cX11_foretold 128 = .ok (.getfield 83, 3) := by decide +kernel
theorem dX11_foretold_131 : decode cX11_foretold 131 = .ok (.bipush 10, 2) := by decide +kernel
theorem dX11_foretold_133 : decode cX11_foretold 133 = .ok (.iload_n 3, 1) := by decide +kernel
theorem dX11_foretold_134 : decode cX11_foretold 134 = .ok (.iadd, 1) := by decide +kernel
theorem dX11_foretold_135 : decode cX11_foretold 135 = .ok (.iaload, 1) := by decide +kernel
theorem dX11_foretold_136 : decode cX11_foretold 136 = .ok (.goto 15, 3) := by decide +kernel
theorem dX11_foretold_139 : decode cX11_foretold 139 = .ok (.aload_n 0, 1) := by decide +kernel
theorem dX11_foretold_140 : decode cX11_foretold 140 = .ok (.getfield 80, 3) := by decide +kernel
theorem dX11_foretold_143 : decode cX11_foretold 143 = .ok (.getfield 83, 3) := by decide +kernel
theorem dX11_foretold_146 : decode cX11_foretold 146 = .ok (.bipush 20, 2) := by decide +kernel
theorem dX11_foretold_148 : decode cX11_foretold 148 = .ok (.iload_n 3, 1) := by decide +kernel
theorem dX11_foretold_149 : decode cX11_foretold 149 = .ok (.iadd, 1) := by decide +kernel
theorem dX11_foretold_150 : decode cX11_foretold 150 = .ok (.iaload, 1) := by decide +kernel
theorem dX11_foretold_151 : decode cX11_foretold 151 = .ok (.ireturn, 1) := by decide +kernel
theorem dX11_when_0 : decode cX11_when 0 = .ok (.aload_n 0, 1) := by decide +kernel
theorem dX11_when_1 : decode cX11_when 1 = .ok (.iload_n 1, 1) := by decide +kernel
theorem dX11_when_2 : decode cX11_when 2 = .ok (.invokevirtual 125, 3) := by decide +kernel
theorem dX11_when_5 : decode cX11_when 5 = .ok (.ifCond .ne 5, 3) := by decide +kernel
theorem dX11_when_8 : decode cX11_when 8 = .ok (.iconst (-1), 1) := by decide +kernel
theorem dX11_when_9 : decode cX11_when 9 = .ok (.ireturn, 1) := by decide +kernel
theorem dX11_when_10 : decode cX11_when 10 = .ok (.aload_n 0, 1) := by decide +kernel
theorem dX11_when_11 : decode cX11_when 11 = .ok (.getfield 86, 3) := by decide +kernel
theorem dX11_when_14 : decode cX11_when 14 = .ok (.iconst 0, 1) := by decide +kernel
theorem dX11_when_15 : decode cX11_when 15 = .ok (.aload_n 0, 1) := by decide +kernel
theorem dX11_when_16 : decode cX11_when 16 = .ok (.getfield 80, 3) := by decide +kernel
theorem dX11_when_19 : decode cX11_when 19 = .ok (.getfield 83, 3) := by decide +kernel
theorem dX11_when_22 : decode cX11_when 22 = .ok (.iconst 0, 1) := by decide +kernel
theorem dX11_when_23 : decode cX11_when 23 = .ok (.bipush 117, 2) := by decide +kernel
theorem dX11_when_25 : decode cX11_when 25 = .ok (.invokestatic 87, 3) := by decide +kernel
theorem dX11_when_28 : decode cX11_when 28 = .ok (.iconst 1, 1) := by decide +kernel
theorem dX11_when_29 : decode cX11_when 29 = .ok (.istore_n 2, 1) := by decide +kernel
theorem dX11_when_30 : decode cX11_when 30 = .ok (.iload_n 2, 1) := by decide +kernel
theorem dX11_when_31 : decode cX11_when 31 = .ok (.bipush 60, 2) := by decide +kernel
theorem dX11_when_33 : decode cX11_when 33 = .ok (.if_icmp .gt 32, 3) := by decide +kernel
theorem dX11_when_36 : decode cX11_when 36 = .ok (.aload_n 0, 1) := by decide +kernel
theorem dX11_when_37 : decode cX11_when 37 = .ok (.getfield 80, 3) := by decide +kernel
theorem dX11_when_40 : decode cX11_when 40 = .ok (.invokevirtual 142, 3) := by decide +kernel
theorem dX11_when_43 : decode cX11_when 43 = .ok (.ifCond .eq 22, 3) := by decide +kernel
theorem dX11_when_46 : decode cX11_when 46 = .ok (.aload_n 0, 1) := by decide +kernel
theorem dX11_when_47 : decode cX11_when 47 = .ok (.getfield 80, 3) := by decide +kernel
theorem dX11_when_50 : decode cX11_when 50 = .ok (.invokevirtual 146, 3) := by decide +kernel
theorem dX11_when_53 : decode cX11_when 53 = .ok (.iload_n 1, 1) := by decide +kernel
theorem dX11_when_54 : decode cX11_when 54 = .ok (.if_icmp .ne 5, 3) := by decide +kernel
theorem dX11_when_57 : decode cX11_when 57 = .ok (.iload_n 2, 1) := by decide +kernel
theorem dX11_when_58 : decode cX11_when 58 = .ok (.ireturn, 1) := by decide +kernel
theorem dX11_when_59 : decode cX11_when 59 = .ok (.iinc 2 1, 3) := by decide +kernel
theorem dX11_when_62 : decode cX11_when 62 = .ok (.goto (-32), 3) := by decide +kernel
theorem dX11_when_65 : decode cX11_when 65 = .ok (.iconst (-1), 1) := by decide +kernel
theorem dX11_when_66 : decode cX11_when 66 = .ok (.ireturn, 1) := by decide +kernel
theorem dX11_steps_0 : decode cX11_steps 0 = .ok (.iload_n 1, 1) := by decide +kernel
theorem dX11_steps_1 : decode cX11_steps 1 = .ok (.iload_n 2, 1) := by decide +kernel
theorem dX11_steps_2 : decode cX11_steps 2 = .ok (.aload_n 0, 1) := by decide +kernel
theorem dX11_steps_3 : decode cX11_steps 3 = .ok (.getfield 76, 3) := by decide +kernel
theorem dX11_steps_6 : decode cX11_steps 6 = .ok (.invokevirtual 214, 3) := by decide +kernel
theorem dX11_steps_9 : decode cX11_steps 9 = .ok (.invokestatic 217, 3) := by decide +kernel
theorem dX11_steps_12 : decode cX11_steps 12 = .ok (.ireturn, 1) := by decide +kernel
theorem dX11_way_0 : decode cX11_way 0 = .ok (.aload_n 0, 1) := by decide +kernel
theorem dX11_way_1 : decode cX11_way 1 = .ok (.getfield 76, 3) := by decide +kernel
theorem dX11_way_4 : decode cX11_way 4 = .ok (.invokevirtual 214, 3) := by decide +kernel
theorem dX11_way_7 : decode cX11_way 7 = .ok (.istore 4, 2) := by decide +kernel
theorem dX11_way_9 : decode cX11_way 9 = .ok (.iload_n 1, 1) := by decide +kernel
theorem dX11_way_10 : decode cX11_way 10 = .ok (.iload_n 2, 1) := by decide +kernel
theorem dX11_way_11 : decode cX11_way 11 = .ok (.iload 4, 2) := by decide +kernel
theorem dX11_way_13 : decode cX11_way 13 = .ok (.invokestatic 217, 3) := by decide +kernel
theorem dX11_way_16 : decode cX11_way 16 = .ok (.istore 5, 2) := by decide +kernel
theorem dX11_way_18 : decode cX11_way 18 = .ok (.iload_n 3, 1) := by decide +kernel
theorem dX11_way_19 : decode cX11_way 19 = .ok (.iconst 0, 1) := by decide +kernel
theorem dX11_way_20 : decode cX11_way 20 = .ok (.iload 5, 2) := by decide +kernel
theorem dX11_way_22 : decode cX11_way 22 = .ok (.iconst 1, 1) := by decide +kernel
theorem dX11_way_23 : decode cX11_way 23 = .ok (.isub, 1) := by decide +kernel
theorem dX11_way_24 : decode cX11_way 24 = .ok (.invokestatic 100, 3) := by decide +kernel
theorem dX11_way_27 : decode cX11_way 27 = .ok (.ifCond .ne 6, 3) := by decide +kernel
theorem dX11_way_30 : decode cX11_way 30 = .ok (.bipush (-2), 2) := by decide +kernel
theorem dX11_way_32 : decode cX11_way 32 = .ok (.ireturn, 1) := by decide +kernel
theorem dX11_way_33 : decode cX11_way 33 = .ok (.iload_n 1, 1) := by decide +kernel
theorem dX11_way_34 : decode cX11_way 34 = .ok (.istore 6, 2) := by decide +kernel
theorem dX11_way_36 : decode cX11_way 36 = .ok (.iconst 0, 1) := by decide +kernel
theorem dX11_way_37 : decode cX11_way 37 = .ok (.istore 7, 2) := by decide +kernel
theorem dX11_way_39 : decode cX11_way 39 = .ok (.iload 7, 2) := by decide +kernel
theorem dX11_way_41 : decode cX11_way 41 = .ok (.iload_n 3, 1) := by decide +kernel
theorem dX11_way_42 : decode cX11_way 42 = .ok (.if_icmp .gt 26, 3) := by decide +kernel
theorem dX11_way_45 : decode cX11_way 45 = .ok (.iload 7, 2) := by decide +kernel
theorem dX11_way_47 : decode cX11_way 47 = .ok (.bipush 30, 2) := by decide +kernel
theorem dX11_way_49 : decode cX11_way 49 = .ok (.if_icmp .ge 19, 3) := by decide +kernel
theorem dX11_way_52 : decode cX11_way 52 = .ok (.iload 6, 2) := by decide +kernel
theorem dX11_way_54 : decode cX11_way 54 = .ok (.iload_n 2, 1) := by decide +kernel
theorem dX11_way_55 : decode cX11_way 55 = .ok (.iload 4, 2) := by decide +kernel
theorem dX11_way_57 : decode cX11_way 57 = .ok (.invokestatic 222, 3) := by decide +kernel
theorem dX11_way_60 : decode cX11_way 60 = .ok (.istore 6, 2) := by decide +kernel
theorem dX11_way_62 : decode cX11_way 62 = .ok (.iinc 7 1, 3) := by decide +kernel
theorem dX11_way_65 : decode cX11_way 65 = .ok (.goto (-26), 3) := by decide +kernel
theorem dX11_way_68 : decode cX11_way 68 = .ok (.iload 6, 2) := by decide +kernel
theorem dX11_way_70 : decode cX11_way 70 = .ok (.ireturn, 1) := by decide +kernel
theorem dX11_caught_0 : decode cX11_caught 0 = .ok (.aload_n 0, 1) := by decide +kernel
theorem dX11_caught_1 : decode cX11_caught 1 = .ok (.iload_n 1, 1) := by decide +kernel
theorem dX11_caught_2 : decode cX11_caught 2 = .ok (.iload_n 2, 1) := by decide +kernel
theorem dX11_caught_3 : decode cX11_caught 3 = .ok (.iload_n 3, 1) := by decide +kernel
theorem dX11_caught_4 : decode cX11_caught 4 = .ok (.invokevirtual 225, 3) := by decide +kernel
theorem dX11_caught_7 : decode cX11_caught 7 = .ok (.ifCond .ne 5, 3) := by decide +kernel
theorem dX11_caught_10 : decode cX11_caught 10 = .ok (.iconst (-1), 1) := by decide +kernel
theorem dX11_caught_11 : decode cX11_caught 11 = .ok (.ireturn, 1) := by decide +kernel
theorem dX11_caught_12 : decode cX11_caught 12 = .ok (.aload_n 0, 1) := by decide +kernel
theorem dX11_caught_13 : decode cX11_caught 13 = .ok (.getfield 27, 3) := by decide +kernel
theorem dX11_caught_16 : decode cX11_caught 16 = .ok (.iload_n 1, 1) := by decide +kernel
theorem dX11_caught_17 : decode cX11_caught 17 = .ok (.iload_n 2, 1) := by decide +kernel
theorem dX11_caught_18 : decode cX11_caught 18 = .ok (.iload_n 3, 1) := by decide +kernel
theorem dX11_caught_19 : decode cX11_caught 19 = .ok (.aload_n 0, 1) := by decide +kernel
theorem dX11_caught_20 : decode cX11_caught 20 = .ok (.getfield 76, 3) := by decide +kernel
theorem dX11_caught_23 : decode cX11_caught 23 = .ok (.invokevirtual 214, 3) := by decide +kernel
theorem dX11_caught_26 : decode cX11_caught 26 = .ok (.invokevirtual 228, 3) := by decide +kernel
theorem dX11_caught_29 : decode cX11_caught 29 = .ok (.aload_n 0, 1) := by decide +kernel
theorem dX11_caught_30 : decode cX11_caught 30 = .ok (.getfield 27, 3) := by decide +kernel
theorem dX11_caught_33 : decode cX11_caught 33 = .ok (.getfield 232, 3) := by decide +kernel
theorem dX11_caught_36 : decode cX11_caught 36 = .ok (.ireturn, 1) := by decide +kernel
theorem dX11_flee_0 : decode cX11_flee 0 = .ok (.aload_n 0, 1) := by decide +kernel
theorem dX11_flee_1 : decode cX11_flee 1 = .ok (.iload_n 1, 1) := by decide +kernel
theorem dX11_flee_2 : decode cX11_flee 2 = .ok (.iload_n 2, 1) := by decide +kernel
theorem dX11_flee_3 : decode cX11_flee 3 = .ok (.iload_n 3, 1) := by decide +kernel
theorem dX11_flee_4 : decode cX11_flee 4 = .ok (.invokevirtual 225, 3) := by decide +kernel
theorem dX11_flee_7 : decode cX11_flee 7 = .ok (.ifCond .ne 5, 3) := by decide +kernel
theorem dX11_flee_10 : decode cX11_flee 10 = .ok (.iconst (-1), 1) := by decide +kernel
theorem dX11_flee_11 : decode cX11_flee 11 = .ok (.ireturn, 1) := by decide +kernel
theorem dX11_flee_12 : decode cX11_flee 12 = .ok (.aload_n 0, 1) := by decide +kernel
theorem dX11_flee_13 : decode cX11_flee 13 = .ok (.getfield 27, 3) := by decide +kernel
theorem dX11_flee_16 : decode cX11_flee 16 = .ok (.iload_n 1, 1) := by decide +kernel
theorem dX11_flee_17 : decode cX11_flee 17 = .ok (.iload_n 2, 1) := by decide +kernel
theorem dX11_flee_18 : decode cX11_flee 18 = .ok (.iload_n 3, 1) := by decide +kernel
theorem dX11_flee_19 : decode cX11_flee 19 = .ok (.aload_n 0, 1) := by decide +kernel
theorem dX11_flee_20 : decode cX11_flee 20 = .ok (.getfield 76, 3) := by decide +kernel
theorem dX11_flee_23 : decode cX11_flee 23 = .ok (.invokevirtual 214, 3) := by decide +kernel
theorem dX11_flee_26 : decode cX11_flee 26 = .ok (.invokevirtual 228, 3) := by decide +kernel
theorem dX11_flee_29 : decode cX11_flee 29 = .ok (.aload_n 0, 1) := by decide +kernel
theorem dX11_flee_30 : decode cX11_flee 30 = .ok (.getfield 27, 3) := by decide +kernel
theorem dX11_flee_33 : decode cX11_flee 33 = .ok (.getfield 235, 3) := by decide +kernel
theorem dX11_flee_36 : decode cX11_flee 36 = .ok (.ireturn, 1) := by decide +kernel
theorem dX11_canChase_0 : decode cX11_canChase 0 = .ok (.aload_n 0, 1) := by decide +kernel
theorem dX11_canChase_1 : decode cX11_canChase 1 = .ok (.getfield 76, 3) := by decide +kernel
theorem dX11_canChase_4 : decode cX11_canChase 4 = .ok (.iload_n 1, 1) := by decide +kernel
theorem dX11_canChase_5 : decode cX11_canChase 5 = .ok (.invokevirtual 93, 3) := by decide +kernel
theorem dX11_canChase_8 : decode cX11_canChase 8 = .ok (.ifCond .eq 27, 3) := by decide +kernel
theorem dX11_canChase_11 : decode cX11_canChase 11 = .ok (.aload_n 0, 1) := by decide +kernel
theorem dX11_canChase_12 : decode cX11_canChase 12 = .ok (.getfield 76, 3) := by decide +kernel
theorem dX11_canChase_15 : decode cX11_canChase 15 = .ok (.iload_n 2, 1) := by decide +kernel
theorem dX11_canChase_16 : decode cX11_canChase 16 = .ok (.invokevirtual 93, 3) := by decide +kernel
theorem dX11_canChase_19 : decode cX11_canChase 19 = .ok (.ifCond .eq 16, 3) := by decide +kernel
theorem dX11_canChase_22 : decode cX11_canChase 22 = .ok (.iload_n 3, 1) := by decide +kernel
theorem dX11_canChase_23 : decode cX11_canChase 23 = .ok (.iconst 1, 1) := by decide +kernel
theorem dX11_canChase_24 : decode cX11_canChase 24 = .ok (.iconst 2, 1) := by decide +kernel
theorem dX11_canChase_25 : decode cX11_canChase 25 = .ok (.invokestatic 100, 3) := by decide +kernel
theorem dX11_canChase_28 : decode cX11_canChase 28 = .ok (.ifCond .eq 7, 3) := by decide +kernel
theorem dX11_canChase_31 : decode cX11_canChase 31 = .ok (.iconst 1, 1) := by decide +kernel
theorem dX11_canChase_32 : decode cX11_canChase 32 = .ok (.goto 4, 3) := by decide +kernel
theorem dX11_canChase_35 : decode cX11_canChase 35 = .ok (.iconst 0, 1) := by decide +kernel
theorem dX11_canChase_36 : decode cX11_canChase 36 = .ok (.ireturn, 1) := by decide +kernel
theorem dX11_tour_0 : decode cX11_tour 0 = .ok (.aload_n 0, 1) := by decide +kernel
theorem dX11_tour_1 : decode cX11_tour 1 = .ok (.getfield 76, 3) := by decide +kernel
theorem dX11_tour_4 : decode cX11_tour 4 = .ok (.invokevirtual 214, 3) := by decide +kernel
theorem dX11_tour_7 : decode cX11_tour 7 = .ok (.istore 4, 2) := by decide +kernel
theorem dX11_tour_9 : decode cX11_tour 9 = .ok (.iload_n 2, 1) := by decide +kernel
theorem dX11_tour_10 : decode cX11_tour 10 = .ok (.invokestatic 238, 3) := by decide +kernel
theorem dX11_tour_13 : decode cX11_tour 13 = .ok (.istore 5, 2) := by decide +kernel
theorem dX11_tour_15 : decode cX11_tour 15 = .ok (.aload_n 0, 1) := by decide +kernel
theorem dX11_tour_16 : decode cX11_tour 16 = .ok (.getfield 76, 3) := by decide +kernel
theorem dX11_tour_19 : decode cX11_tour 19 = .ok (.iload_n 1, 1) := by decide +kernel
theorem dX11_tour_20 : decode cX11_tour 20 = .ok (.invokevirtual 93, 3) := by decide +kernel
theorem dX11_tour_23 : decode cX11_tour 23 = .ok (.ifCond .eq 22, 3) := by decide +kernel
theorem dX11_tour_26 : decode cX11_tour 26 = .ok (.iload_n 2, 1) := by decide +kernel
theorem dX11_tour_27 : decode cX11_tour 27 = .ok (.iload 4, 2) := by decide +kernel
theorem dX11_tour_29 : decode cX11_tour 29 = .ok (.iconst (-1), 1) := by decide +kernel
theorem dX11_tour_30 : decode cX11_tour 30 = .ok (.ixor, 1) := by decide +kernel
theorem dX11_tour_31 : decode cX11_tour 31 = .ok (.iand, 1) := by decide +kernel
theorem dX11_tour_32 : decode cX11_tour 32 = .ok (.ifCond .ne 13, 3) := by decide +kernel
theorem dX11_tour_35 : decode cX11_tour 35 = .ok (.iload 5, 2) := by decide +kernel
theorem dX11_tour_37 : decode cX11_tour 37 = .ok (.iconst 1, 1) := by decide +kernel
theorem dX11_tour_38 : decode cX11_tour 38 = .ok (.iconst 5, 1) := by decide +kernel
theorem dX11_tour_39 : decode cX11_tour 39 = .ok (.invokestatic 100, 3) := by decide +kernel
theorem dX11_tour_42 : decode cX11_tour 42 = .ok (.ifCond .ne 6, 3) := by decide +kernel
theorem dX11_tour_45 : decode cX11_tour 45 = .ok (.bipush (-2), 2) := by decide +kernel
theorem dX11_tour_47 : decode cX11_tour 47 = .ok (.ireturn, 1) := by decide +kernel
theorem dX11_tour_48 : decode cX11_tour 48 = .ok (.iload_n 3, 1) := by decide +kernel
theorem dX11_tour_49 : decode cX11_tour 49 = .ok (.iconst (-1), 1) := by decide +kernel
theorem dX11_tour_50 : decode cX11_tour 50 = .ok (.iload 5, 2) := by decide +kernel
theorem dX11_tour_52 : decode cX11_tour 52 = .ok (.iconst 1, 1) := by decide +kernel
theorem dX11_tour_53 : decode cX11_tour 53 = .ok (.isub, 1) := by decide +kernel
theorem dX11_tour_54 : decode cX11_tour 54 = .ok (.invokestatic 100, 3) := by decide +kernel
theorem dX11_tour_57 : decode cX11_tour 57 = .ok (.ifCond .eq 17, 3) := by decide +kernel
theorem dX11_tour_60 : decode cX11_tour 60 = .ok (.aload_n 0, 1) := by decide +kernel
theorem dX11_tour_61 : decode cX11_tour 61 = .ok (.getfield 34, 3) := by decide +kernel
theorem dX11_tour_64 : decode cX11_tour 64 = .ok (.iload_n 1, 1) := by decide +kernel
theorem dX11_tour_65 : decode cX11_tour 65 = .ok (.iload_n 2, 1) := by decide +kernel
theorem dX11_tour_66 : decode cX11_tour 66 = .ok (.iload 4, 2) := by decide +kernel
theorem dX11_tour_68 : decode cX11_tour 68 = .ok (.invokevirtual 243, 3) := by decide +kernel
theorem dX11_tour_71 : decode cX11_tour 71 = .ok (.ifCond .ne 6, 3) := by decide +kernel
theorem dX11_tour_74 : decode cX11_tour 74 = .ok (.bipush (-2), 2) := by decide +kernel
theorem dX11_tour_76 : decode cX11_tour 76 = .ok (.ireturn, 1) := by decide +kernel
theorem dX11_tour_77 : decode cX11_tour 77 = .ok (.iload_n 3, 1) := by decide +kernel
theorem dX11_tour_78 : decode cX11_tour 78 = .ok (.iconst (-1), 1) := by decide +kernel
theorem dX11_tour_79 : decode cX11_tour 79 = .ok (.if_icmp .ne 13, 3) := by decide +kernel
theorem dX11_tour_82 : decode cX11_tour 82 = .ok (.aload_n 0, 1) := by decide +kernel
theorem dX11_tour_83 : decode cX11_tour 83 = .ok (.getfield 34, 3) := by decide +kernel
theorem dX11_tour_86 : decode cX11_tour 86 = .ok (.getfield 245, 3) := by decide +kernel
theorem dX11_tour_89 : decode cX11_tour 89 = .ok (.goto 12, 3) := by decide +kernel
theorem dX11_tour_92 : decode cX11_tour 92 = .ok (.aload_n 0, 1) := by decide +kernel
theorem dX11_tour_93 : decode cX11_tour 93 = .ok (.getfield 34, 3) := by decide +kernel
theorem dX11_tour_96 : decode cX11_tour 96 = .ok (.getfield 248, 3) := by decide +kernel
theorem dX11_tour_99 : decode cX11_tour 99 = .ok (.iload_n 3, 1) := by decide +kernel
theorem dX11_tour_100 : decode cX11_tour 100 = .ok (.iaload, 1) := by decide +kernel
theorem dX11_tour_101 : decode cX11_tour 101 = .ok (.ireturn, 1) := by decide +kernel
theorem dX11_cut_0 : decode cX11_cut 0 = .ok (.aload_n 0, 1) := by decide +kernel
theorem dX11_cut_1 : decode cX11_cut 1 = .ok (.getfield 76, 3) := by decide +kernel
theorem dX11_cut_4 : decode cX11_cut 4 = .ok (.iload_n 1, 1) := by decide +kernel
theorem dX11_cut_5 : decode cX11_cut 5 = .ok (.invokevirtual 93, 3) := by decide +kernel
theorem dX11_cut_8 : decode cX11_cut 8 = .ok (.ifCond .eq 19, 3) := by decide +kernel
theorem dX11_cut_11 : decode cX11_cut 11 = .ok (.aload_n 0, 1) := by decide +kernel
theorem dX11_cut_12 : decode cX11_cut 12 = .ok (.getfield 76, 3) := by decide +kernel
theorem dX11_cut_15 : decode cX11_cut 15 = .ok (.iload_n 2, 1) := by decide +kernel
theorem dX11_cut_16 : decode cX11_cut 16 = .ok (.invokevirtual 93, 3) := by decide +kernel
theorem dX11_cut_19 : decode cX11_cut 19 = .ok (.ifCond .eq 8, 3) := by decide +kernel
theorem dX11_cut_22 : decode cX11_cut 22 = .ok (.iload_n 1, 1) := by decide +kernel
theorem dX11_cut_23 : decode cX11_cut 23 = .ok (.iload_n 2, 1) := by decide +kernel
theorem dX11_cut_24 : decode cX11_cut 24 = .ok (.if_icmp .ne 5, 3) := by decide +kernel
theorem dX11_cut_27 : decode cX11_cut 27 = .ok (.iconst (-1), 1) := by decide +kernel
theorem dX11_cut_28 : decode cX11_cut 28 = .ok (.ireturn, 1) := by decide +kernel
theorem dX11_cut_29 : decode cX11_cut 29 = .ok (.aload_n 0, 1) := by decide +kernel
theorem dX11_cut_30 : decode cX11_cut 30 = .ok (.getfield 48, 3) := by decide +kernel
theorem dX11_cut_33 : decode cX11_cut 33 = .ok (.iload_n 1, 1) := by decide +kernel
theorem dX11_cut_34 : decode cX11_cut 34 = .ok (.iload_n 2, 1) := by decide +kernel
theorem dX11_cut_35 : decode cX11_cut 35 = .ok (.aload_n 0, 1) := by decide +kernel
theorem dX11_cut_36 : decode cX11_cut 36 = .ok (.getfield 76, 3) := by decide +kernel
theorem dX11_cut_39 : decode cX11_cut 39 = .ok (.invokevirtual 214, 3) := by decide +kernel
theorem dX11_cut_42 : decode cX11_cut 42 = .ok (.invokevirtual 251, 3) := by decide +kernel
theorem dX11_cut_45 : decode cX11_cut 45 = .ok (.ireturn, 1) := by decide +kernel
theorem dX11_narrows_0 : decode cX11_narrows 0 = .ok (.aload_n 0, 1) := by decide +kernel
theorem dX11_narrows_1 : decode cX11_narrows 1 = .ok (.getfield 76, 3) := by decide +kernel
theorem dX11_narrows_4 : decode cX11_narrows 4 = .ok (.invokevirtual 214, 3) := by decide +kernel
theorem dX11_narrows_7 : decode cX11_narrows 7 = .ok (.istore_n 1, 1) := by decide +kernel
theorem dX11_narrows_8 : decode cX11_narrows 8 = .ok (.iconst 0, 1) := by decide +kernel
theorem dX11_narrows_9 : decode cX11_narrows 9 = .ok (.istore_n 2, 1) := by decide +kernel
theorem dX11_narrows_10 : decode cX11_narrows 10 = .ok (.iconst 0, 1) := by decide +kernel
theorem dX11_narrows_11 : decode cX11_narrows 11 = .ok (.istore_n 3, 1) := by decide +kernel
theorem dX11_narrows_12 : decode cX11_narrows 12 = .ok (.iload_n 3, 1) := by decide +kernel
theorem dX11_narrows_13 : decode cX11_narrows 13 = .ok (.bipush 30, 2) := by decide +kernel
theorem dX11_narrows_15 : decode cX11_narrows 15 = .ok (.if_icmp .ge 58, 3) := by decide +kernel
theorem dX11_narrows_18 : decode cX11_narrows 18 = .ok (.iconst 1, 1) := by decide +kernel
theorem dX11_narrows_19 : decode cX11_narrows 19 = .ok (.iload_n 3, 1) := by decide +kernel
theorem dX11_narrows_20 : decode cX11_narrows 20 = .ok (.ishl, 1) := by decide +kernel
theorem dX11_narrows_21 : decode cX11_narrows 21 = .ok (.istore 4, 2) := by decide +kernel
theorem dX11_narrows_23 : decode cX11_narrows 23 = .ok (.iload 4, 2) := by decide +kernel
theorem dX11_narrows_25 : decode cX11_narrows 25 = .ok (.invokestatic 254, 3) := by decide +kernel
theorem dX11_narrows_28 : decode cX11_narrows 28 = .ok (.iload_n 1, 1) := by decide +kernel
theorem dX11_narrows_29 : decode cX11_narrows 29 = .ok (.iand, 1) := by decide +kernel
theorem dX11_narrows_30 : decode cX11_narrows 30 = .ok (.istore 5, 2) := by decide +kernel
theorem dX11_narrows_32 : decode cX11_narrows 32 = .ok (.iload_n 1, 1) := by decide +kernel
theorem dX11_narrows_33 : decode cX11_narrows 33 = .ok (.iload 4, 2) := by decide +kernel
theorem dX11_narrows_35 : decode cX11_narrows 35 = .ok (.iand, 1) := by decide +kernel
theorem dX11_narrows_36 : decode cX11_narrows 36 = .ok (.ifCond .eq 31, 3) := by decide +kernel
theorem dX11_narrows_39 : decode cX11_narrows 39 = .ok (.iload 5, 2) := by decide +kernel
theorem dX11_narrows_41 : decode cX11_narrows 41 = .ok (.iload 5, 2) := by decide +kernel
theorem dX11_narrows_43 : decode cX11_narrows 43 = .ok (.iload 5, 2) := by decide +kernel
theorem dX11_narrows_45 : decode cX11_narrows 45 = .ok (.ineg, 1) := by decide +kernel
theorem dX11_narrows_46 : decode cX11_narrows 46 = .ok (.iand, 1) := by decide +kernel
theorem dX11_narrows_47 : decode cX11_narrows 47 = .ok (.iload_n 1, 1) := by decide +kernel
theorem dX11_narrows_48 : decode cX11_narrows 48 = .ok (.iload 4, 2) := by decide +kernel
theorem dX11_narrows_50 : decode cX11_narrows 50 = .ok (.iconst (-1), 1) := by decide +kernel
theorem dX11_narrows_51 : decode cX11_narrows 51 = .ok (.ixor, 1) := by decide +kernel
theorem dX11_narrows_52 : decode cX11_narrows 52 = .ok (.iand, 1) := by decide +kernel
theorem dX11_narrows_53 : decode cX11_narrows 53 = .ok (.invokestatic 257, 3) := by decide +kernel
theorem dX11_narrows_56 : decode cX11_narrows 56 = .ok (.iconst (-1), 1) := by decide +kernel
theorem dX11_narrows_57 : decode cX11_narrows 57 = .ok (.ixor, 1) := by decide +kernel
theorem dX11_narrows_58 : decode cX11_narrows 58 = .ok (.iand, 1) := by decide +kernel
theorem dX11_narrows_59 : decode cX11_narrows 59 = .ok (.ifCond .eq 8, 3) := by decide +kernel
theorem dX11_narrows_62 : decode cX11_narrows 62 = .ok (.iload_n 2, 1) := by decide +kernel
theorem dX11_narrows_63 : decode cX11_narrows 63 = .ok (.iload 4, 2) := by decide +kernel
theorem dX11_narrows_65 : decode cX11_narrows 65 = .ok (.ior, 1) := by decide +kernel
theorem dX11_narrows_66 : decode cX11_narrows 66 = .ok (.istore_n 2, 1) := by decide +kernel
theorem dX11_narrows_67 : decode cX11_narrows 67 = .ok (.iinc 3 1, 3) := by decide +kernel
theorem dX11_narrows_70 : decode cX11_narrows 70 = .ok (.goto (-58), 3) := by decide +kernel
theorem dX11_narrows_73 : decode cX11_narrows 73 = .ok (.iload_n 2, 1) := by decide +kernel
theorem dX11_narrows_74 : decode cX11_narrows 74 = .ok (.ireturn, 1) := by decide +kernel
theorem dX11_cost_0 : decode cX11_cost 0 = .ok (.iload_n 1, 1) := by decide +kernel
theorem dX11_cost_1 : decode cX11_cost 1 = .ok (.iconst 0, 1) := by decide +kernel
theorem dX11_cost_2 : decode cX11_cost 2 = .ok (.iconst 4, 1) := by decide +kernel
theorem dX11_cost_3 : decode cX11_cost 3 = .ok (.invokestatic 100, 3) := by decide +kernel
theorem dX11_cost_6 : decode cX11_cost 6 = .ok (.ifCond .eq 20, 3) := by decide +kernel
theorem dX11_cost_9 : decode cX11_cost 9 = .ok (.iload_n 2, 1) := by decide +kernel
theorem dX11_cost_10 : decode cX11_cost 10 = .ok (.invokestatic 261, 3) := by decide +kernel
theorem dX11_cost_13 : decode cX11_cost 13 = .ok (.ifCond .eq 13, 3) := by decide +kernel
theorem dX11_cost_16 : decode cX11_cost 16 = .ok (.iload_n 3, 1) := by decide +kernel
theorem dX11_cost_17 : decode cX11_cost 17 = .ok (.iconst 0, 1) := by decide +kernel
theorem dX11_cost_18 : decode cX11_cost 18 = .ok (.bipush 99, 2) := by decide +kernel
theorem dX11_cost_20 : decode cX11_cost 20 = .ok (.invokestatic 100, 3) := by decide +kernel
theorem dX11_cost_23 : decode cX11_cost 23 = .ok (.ifCond .ne 5, 3) := by decide +kernel
theorem dX11_cost_26 : decode cX11_cost 26 = .ok (.iconst 0, 1) := by decide +kernel
theorem dX11_cost_27 : decode cX11_cost 27 = .ok (.ireturn, 1) := by decide +kernel
theorem dX11_cost_28 : decode cX11_cost 28 = .ok (.aload_n 0, 1) := by decide +kernel
theorem dX11_cost_29 : decode cX11_cost 29 = .ok (.getfield 86, 3) := by decide +kernel
theorem dX11_cost_32 : decode cX11_cost 32 = .ok (.bipush 118, 2) := by decide +kernel
theorem dX11_cost_34 : decode cX11_cost 34 = .ok (.iload_n 1, 1) := by decide +kernel
theorem dX11_cost_35 : decode cX11_cost 35 = .ok (.bipush 7, 2) := by decide +kernel
theorem dX11_cost_37 : decode cX11_cost 37 = .ok (.imul, 1) := by decide +kernel
theorem dX11_cost_38 : decode cX11_cost 38 = .ok (.iadd, 1) := by decide +kernel
theorem dX11_cost_39 : decode cX11_cost 39 = .ok (.iload_n 2, 1) := by decide +kernel
theorem dX11_cost_40 : decode cX11_cost 40 = .ok (.iadd, 1) := by decide +kernel
theorem dX11_cost_41 : decode cX11_cost 41 = .ok (.iload_n 3, 1) := by decide +kernel
theorem dX11_cost_42 : decode cX11_cost 42 = .ok (.iastore, 1) := by decide +kernel
theorem dX11_cost_43 : decode cX11_cost 43 = .ok (.iconst 1, 1) := by decide +kernel
theorem dX11_cost_44 : decode cX11_cost 44 = .ok (.ireturn, 1) := by decide +kernel
theorem dX11_roster_0 : decode cX11_roster 0 = .ok (.iload_n 1, 1) := by decide +kernel
theorem dX11_roster_1 : decode cX11_roster 1 = .ok (.iconst 1, 1) := by decide +kernel
theorem dX11_roster_2 : decode cX11_roster 2 = .ok (.bipush 7, 2) := by decide +kernel
theorem dX11_roster_4 : decode cX11_roster 4 = .ok (.invokestatic 100, 3) := by decide +kernel
theorem dX11_roster_7 : decode cX11_roster 7 = .ok (.ifCond .eq 30, 3) := by decide +kernel
theorem dX11_roster_10 : decode cX11_roster 10 = .ok (.iload_n 2, 1) := by decide +kernel
theorem dX11_roster_11 : decode cX11_roster 11 = .ok (.iconst (-1), 1) := by decide +kernel
theorem dX11_roster_12 : decode cX11_roster 12 = .ok (.if_icmp .eq 10, 3) := by decide +kernel
theorem dX11_roster_15 : decode cX11_roster 15 = .ok (.iload_n 2, 1) := by decide +kernel
theorem dX11_roster_16 : decode cX11_roster 16 = .ok (.invokestatic 261, 3) := by decide +kernel
theorem dX11_roster_19 : decode cX11_roster 19 = .ok (.ifCond .eq 18, 3) := by decide +kernel
theorem dX11_roster_22 : decode cX11_roster 22 = .ok (.aload_n 0, 1) := by decide +kernel
theorem dX11_roster_23 : decode cX11_roster 23 = .ok (.getfield 41, 3) := by decide +kernel
theorem dX11_roster_26 : decode cX11_roster 26 = .ok (.aload_n 0, 1) := by decide +kernel
theorem dX11_roster_27 : decode cX11_roster 27 = .ok (.getfield 86, 3) := by decide +kernel
theorem dX11_roster_30 : decode cX11_roster 30 = .ok (.iload_n 1, 1) := by decide +kernel
theorem dX11_roster_31 : decode cX11_roster 31 = .ok (.invokevirtual 264, 3) := by decide +kernel
theorem dX11_roster_34 : decode cX11_roster 34 = .ok (.ifCond .ne 5, 3) := by decide +kernel
theorem dX11_roster_37 : decode cX11_roster 37 = .ok (.iconst (-1), 1) := by decide +kernel
theorem dX11_roster_38 : decode cX11_roster 38 = .ok (.ireturn, 1) := by decide +kernel
theorem dX11_roster_39 : decode cX11_roster 39 = .ok (.iload_n 2, 1) := by decide +kernel
theorem dX11_roster_40 : decode cX11_roster 40 = .ok (.iconst (-1), 1) := by decide +kernel
theorem dX11_roster_41 : decode cX11_roster 41 = .ok (.if_icmp .ne 13, 3) := by decide +kernel
theorem dX11_roster_44 : decode cX11_roster 44 = .ok (.aload_n 0, 1) := by decide +kernel
theorem dX11_roster_45 : decode cX11_roster 45 = .ok (.getfield 41, 3) := by decide +kernel
theorem dX11_roster_48 : decode cX11_roster 48 = .ok (.getfield 268, 3) := by decide +kernel
theorem dX11_roster_51 : decode cX11_roster 51 = .ok (.goto 12, 3) := by decide +kernel
theorem dX11_roster_54 : decode cX11_roster 54 = .ok (.aload_n 0, 1) := by decide +kernel
theorem dX11_roster_55 : decode cX11_roster 55 = .ok (.getfield 41, 3) := by decide +kernel
theorem dX11_roster_58 : decode cX11_roster 58 = .ok (.getfield 269, 3) := by decide +kernel
theorem dX11_roster_61 : decode cX11_roster 61 = .ok (.iload_n 2, 1) := by decide +kernel
theorem dX11_roster_62 : decode cX11_roster 62 = .ok (.iaload, 1) := by decide +kernel
theorem dX11_roster_63 : decode cX11_roster 63 = .ok (.ireturn, 1) := by decide +kernel
theorem dX11_swap_0 : decode cX11_swap 0 = .ok (.iload_n 1, 1) := by decide +kernel
theorem dX11_swap_1 : decode cX11_swap 1 = .ok (.iconst 1, 1) := by decide +kernel
theorem dX11_swap_2 : decode cX11_swap 2 = .ok (.bipush 7, 2) := by decide +kernel
theorem dX11_swap_4 : decode cX11_swap 4 = .ok (.invokestatic 100, 3) := by decide +kernel
theorem dX11_swap_7 : decode cX11_swap 7 = .ok (.ifCond .eq 37, 3) := by decide +kernel
theorem dX11_swap_10 : decode cX11_swap 10 = .ok (.iload_n 2, 1) := by decide +kernel
theorem dX11_swap_11 : decode cX11_swap 11 = .ok (.invokestatic 261, 3) := by decide +kernel
theorem dX11_swap_14 : decode cX11_swap 14 = .ok (.ifCond .eq 30, 3) := by decide +kernel
theorem dX11_swap_17 : decode cX11_swap 17 = .ok (.iload_n 3, 1) := by decide +kernel
theorem dX11_swap_18 : decode cX11_swap 18 = .ok (.invokestatic 261, 3) := by decide +kernel
theorem dX11_swap_21 : decode cX11_swap 21 = .ok (.ifCond .eq 23, 3) := by decide +kernel
theorem dX11_swap_24 : decode cX11_swap 24 = .ok (.iload_n 2, 1) := by decide +kernel
theorem dX11_swap_25 : decode cX11_swap 25 = .ok (.iload_n 3, 1) := by decide +kernel
theorem dX11_swap_26 : decode cX11_swap 26 = .ok (.if_icmp .eq 18, 3) := by decide +kernel
theorem dX11_swap_29 : decode cX11_swap 29 = .ok (.aload_n 0, 1) := by decide +kernel
theorem dX11_swap_30 : decode cX11_swap 30 = .ok (.getfield 41, 3) := by decide +kernel
theorem dX11_swap_33 : decode cX11_swap 33 = .ok (.aload_n 0, 1) := by decide +kernel
theorem dX11_swap_34 : decode cX11_swap 34 = .ok (.getfield 86, 3) := by decide +kernel
theorem dX11_swap_37 : decode cX11_swap 37 = .ok (.iload_n 1, 1) := by decide +kernel
theorem dX11_swap_38 : decode cX11_swap 38 = .ok (.invokevirtual 264, 3) := by decide +kernel
theorem dX11_swap_41 : decode cX11_swap 41 = .ok (.ifCond .ne 7, 3) := by decide +kernel
theorem dX11_swap_44 : decode cX11_swap 44 = .ok (.sipush (-10000), 3) := by decide +kernel
theorem dX11_swap_47 : decode cX11_swap 47 = .ok (.ireturn, 1) := by decide +kernel
theorem dX11_swap_48 : decode cX11_swap 48 = .ok (.bipush 118, 2) := by decide +kernel
theorem dX11_swap_50 : decode cX11_swap 50 = .ok (.aload_n 0, 1) := by decide +kernel
theorem dX11_swap_51 : decode cX11_swap 51 = .ok (.getfield 41, 3) := by decide +kernel
theorem dX11_swap_54 : decode cX11_swap 54 = .ok (.getfield 269, 3) := by decide +kernel
theorem dX11_swap_57 : decode cX11_swap 57 = .ok (.iload_n 2, 1) := by decide +kernel
theorem dX11_swap_58 : decode cX11_swap 58 = .ok (.iaload, 1) := by decide +kernel
theorem dX11_swap_59 : decode cX11_swap 59 = .ok (.bipush 7, 2) := by decide +kernel
theorem dX11_swap_61 : decode cX11_swap 61 = .ok (.imul, 1) := by decide +kernel
theorem dX11_swap_62 : decode cX11_swap 62 = .ok (.iadd, 1) := by decide +kernel
theorem dX11_swap_63 : decode cX11_swap 63 = .ok (.istore 4, 2) := by decide +kernel
theorem dX11_swap_65 : decode cX11_swap 65 = .ok (.bipush 118, 2) := by decide +kernel
theorem dX11_swap_67 : decode cX11_swap 67 = .ok (.aload_n 0, 1) := by decide +kernel
theorem dX11_swap_68 : decode cX11_swap 68 = .ok (.getfield 41, 3) := by decide +kernel
theorem dX11_swap_71 : decode cX11_swap 71 = .ok (.getfield 269, 3) := by decide +kernel
theorem dX11_swap_74 : decode cX11_swap 74 = .ok (.iload_n 3, 1) := by decide +kernel
theorem dX11_swap_75 : decode cX11_swap 75 = .ok (.iaload, 1) := by decide +kernel
theorem dX11_swap_76 : decode cX11_swap 76 = .ok (.bipush 7, 2) := by decide +kernel
theorem dX11_swap_78 : decode cX11_swap 78 = .ok (.imul, 1) := by decide +kernel
theorem dX11_swap_79 : decode cX11_swap 79 = .ok (.iadd, 1) := by decide +kernel
theorem dX11_swap_80 : decode cX11_swap 80 = .ok (.istore 5, 2) := by decide +kernel
theorem dX11_swap_82 : decode cX11_swap 82 = .ok (.aload_n 0, 1) := by decide +kernel
theorem dX11_swap_83 : decode cX11_swap 83 = .ok (.getfield 86, 3) := by decide +kernel
theorem dX11_swap_86 : decode cX11_swap 86 = .ok (.iload 4, 2) := by decide +kernel
theorem dX11_swap_88 : decode cX11_swap 88 = .ok (.iload_n 2, 1) := by decide +kernel
theorem dX11_swap_89 : decode cX11_swap 89 = .ok (.iadd, 1) := by decide +kernel
theorem dX11_swap_90 : decode cX11_swap 90 = .ok (.iaload, 1) := by decide +kernel
theorem dX11_swap_91 : decode cX11_swap 91 = .ok (.aload_n 0, 1) := by decide +kernel
theorem dX11_swap_92 : decode cX11_swap 92 = .ok (.getfield 86, 3) := by decide +kernel
theorem dX11_swap_95 : decode cX11_swap 95 = .ok (.iload 5, 2) := by decide +kernel
theorem dX11_swap_97 : decode cX11_swap 97 = .ok (.iload_n 3, 1) := by decide +kernel
theorem dX11_swap_98 : decode cX11_swap 98 = .ok (.iadd, 1) := by decide +kernel
theorem dX11_swap_99 : decode cX11_swap 99 = .ok (.iaload, 1) := by decide +kernel
theorem dX11_swap_100 : decode cX11_swap 100 = .ok (.iadd, 1) := by decide +kernel
theorem dX11_swap_101 : decode cX11_swap 101 = .ok (.aload_n 0, 1) := by decide +kernel
theorem dX11_swap_102 : decode cX11_swap 102 = .ok (.getfield 86, 3) := by decide +kernel
theorem dX11_swap_105 : decode cX11_swap 105 = .ok (.iload 4, 2) := by decide +kernel
theorem dX11_swap_107 : decode cX11_swap 107 = .ok (.iload_n 3, 1) := by decide +kernel
theorem dX11_swap_108 : decode cX11_swap 108 = .ok (.iadd, 1) := by decide +kernel
theorem dX11_swap_109 : decode cX11_swap 109 = .ok (.iaload, 1) := by decide +kernel
theorem dX11_swap_110 : decode cX11_swap 110 = .ok (.isub, 1) := by decide +kernel
theorem dX11_swap_111 : decode cX11_swap 111 = .ok (.aload_n 0, 1) := by decide +kernel
theorem dX11_swap_112 : decode cX11_swap 112 = .ok (.getfield 86, 3) := by decide +kernel
theorem dX11_swap_115 : decode cX11_swap 115 = .ok (.iload 5, 2) := by decide +kernel
theorem dX11_swap_117 : decode cX11_swap 117 = .ok (.iload_n 2, 1) := by decide +kernel
theorem dX11_swap_118 : decode cX11_swap 118 = .ok (.iadd, 1) := by decide +kernel
theorem dX11_swap_119 : decode cX11_swap 119 = .ok (.iaload, 1) := by decide +kernel
theorem dX11_swap_120 : decode cX11_swap 120 = .ok (.isub, 1) := by decide +kernel
theorem dX11_swap_121 : decode cX11_swap 121 = .ok (.ireturn, 1) := by decide +kernel
theorem dX11_seen_0 : decode cX11_seen 0 = .ok (.aload_n 0, 1) := by decide +kernel
theorem dX11_seen_1 : decode cX11_seen 1 = .ok (.getfield 86, 3) := by decide +kernel
theorem dX11_seen_4 : decode cX11_seen 4 = .ok (.sipush 153, 3) := by decide +kernel
theorem dX11_seen_7 : decode cX11_seen 7 = .ok (.iaload, 1) := by decide +kernel
theorem dX11_seen_8 : decode cX11_seen 8 = .ok (.istore_n 3, 1) := by decide +kernel
theorem dX11_seen_9 : decode cX11_seen 9 = .ok (.iload_n 1, 1) := by decide +kernel
theorem dX11_seen_10 : decode cX11_seen 10 = .ok (.iconst (-1), 1) := by decide +kernel
theorem dX11_seen_11 : decode cX11_seen 11 = .ok (.if_icmp .ne 14, 3) := by decide +kernel
theorem dX11_seen_14 : decode cX11_seen 14 = .ok (.aload_n 0, 1) := by decide +kernel
theorem dX11_seen_15 : decode cX11_seen 15 = .ok (.getfield 86, 3) := by decide +kernel
theorem dX11_seen_18 : decode cX11_seen 18 = .ok (.sipush 153, 3) := by decide +kernel
theorem dX11_seen_21 : decode cX11_seen 21 = .ok (.iconst 0, 1) := by decide +kernel
theorem dX11_seen_22 : decode cX11_seen 22 = .ok (.iastore, 1) := by decide +kernel
theorem dX11_seen_23 : decode cX11_seen 23 = .ok (.iconst 0, 1) := by decide +kernel
theorem dX11_seen_24 : decode cX11_seen 24 = .ok (.ireturn, 1) := by decide +kernel
theorem dX11_seen_25 : decode cX11_seen 25 = .ok (.iload_n 1, 1) := by decide +kernel
theorem dX11_seen_26 : decode cX11_seen 26 = .ok (.invokestatic 97, 3) := by decide +kernel
theorem dX11_seen_29 : decode cX11_seen 29 = .ok (.ifCond .eq 19, 3) := by decide +kernel
theorem dX11_seen_32 : decode cX11_seen 32 = .ok (.iload_n 2, 1) := by decide +kernel
theorem dX11_seen_33 : decode cX11_seen 33 = .ok (.iconst 0, 1) := by decide +kernel
theorem dX11_seen_34 : decode cX11_seen 34 = .ok (.bipush 30, 2) := by decide +kernel
theorem dX11_seen_36 : decode cX11_seen 36 = .ok (.invokestatic 100, 3) := by decide +kernel
theorem dX11_seen_39 : decode cX11_seen 39 = .ok (.ifCond .eq 9, 3) := by decide +kernel
theorem dX11_seen_42 : decode cX11_seen 42 = .ok (.iload_n 3, 1) := by decide +kernel
theorem dX11_seen_43 : decode cX11_seen 43 = .ok (.bipush 6, 2) := by decide +kernel
theorem dX11_seen_45 : decode cX11_seen 45 = .ok (.if_icmp .lt 6, 3) := by decide +kernel
theorem dX11_seen_48 : decode cX11_seen 48 = .ok (.bipush (-2), 2) := by decide +kernel
theorem dX11_seen_50 : decode cX11_seen 50 = .ok (.ireturn, 1) := by decide +kernel
theorem dX11_seen_51 : decode cX11_seen 51 = .ok (.aload_n 0, 1) := by decide +kernel
theorem dX11_seen_52 : decode cX11_seen 52 = .ok (.getfield 86, 3) := by decide +kernel
theorem dX11_seen_55 : decode cX11_seen 55 = .ok (.sipush 154, 3) := by decide +kernel
theorem dX11_seen_58 : decode cX11_seen 58 = .ok (.iload_n 3, 1) := by decide +kernel
theorem dX11_seen_59 : decode cX11_seen 59 = .ok (.iadd, 1) := by decide +kernel
theorem dX11_seen_60 : decode cX11_seen 60 = .ok (.iload_n 1, 1) := by decide +kernel
theorem dX11_seen_61 : decode cX11_seen 61 = .ok (.iastore, 1) := by decide +kernel
theorem dX11_seen_62 : decode cX11_seen 62 = .ok (.aload_n 0, 1) := by decide +kernel
theorem dX11_seen_63 : decode cX11_seen 63 = .ok (.getfield 86, 3) := by decide +kernel
theorem dX11_seen_66 : decode cX11_seen 66 = .ok (.sipush 160, 3) := by decide +kernel
theorem dX11_seen_69 : decode cX11_seen 69 = .ok (.iload_n 3, 1) := by decide +kernel
theorem dX11_seen_70 : decode cX11_seen 70 = .ok (.iadd, 1) := by decide +kernel
theorem dX11_seen_71 : decode cX11_seen 71 = .ok (.iload_n 2, 1) := by decide +kernel
theorem dX11_seen_72 : decode cX11_seen 72 = .ok (.iastore, 1) := by decide +kernel
theorem dX11_seen_73 : decode cX11_seen 73 = .ok (.aload_n 0, 1) := by decide +kernel
theorem dX11_seen_74 : decode cX11_seen 74 = .ok (.getfield 86, 3) := by decide +kernel
theorem dX11_seen_77 : decode cX11_seen 77 = .ok (.sipush 153, 3) := by decide +kernel
theorem dX11_seen_80 : decode cX11_seen 80 = .ok (.iload_n 3, 1) := by decide +kernel
theorem dX11_seen_81 : decode cX11_seen 81 = .ok (.iconst 1, 1) := by decide +kernel
theorem dX11_seen_82 : decode cX11_seen 82 = .ok (.iadd, 1) := by decide +kernel
theorem dX11_seen_83 : decode cX11_seen 83 = .ok (.iastore, 1) := by decide +kernel
theorem dX11_seen_84 : decode cX11_seen 84 = .ok (.iload_n 3, 1) := by decide +kernel
theorem dX11_seen_85 : decode cX11_seen 85 = .ok (.iconst 1, 1) := by decide +kernel
theorem dX11_seen_86 : decode cX11_seen 86 = .ok (.iadd, 1) := by decide +kernel
theorem dX11_seen_87 : decode cX11_seen 87 = .ok (.ireturn, 1) := by decide +kernel
theorem dX11_from_0 : decode cX11_from 0 = .ok (.aload_n 0, 1) := by decide +kernel
theorem dX11_from_1 : decode cX11_from 1 = .ok (.getfield 76, 3) := by decide +kernel
theorem dX11_from_4 : decode cX11_from 4 = .ok (.invokevirtual 214, 3) := by decide +kernel
theorem dX11_from_7 : decode cX11_from 7 = .ok (.istore_n 2, 1) := by decide +kernel
theorem dX11_from_8 : decode cX11_from 8 = .ok (.iconst 0, 1) := by decide +kernel
theorem dX11_from_9 : decode cX11_from 9 = .ok (.istore_n 3, 1) := by decide +kernel
theorem dX11_from_10 : decode cX11_from 10 = .ok (.iconst 0, 1) := by decide +kernel
theorem dX11_from_11 : decode cX11_from 11 = .ok (.istore 4, 2) := by decide +kernel
theorem dX11_from_13 : decode cX11_from 13 = .ok (.iload 4, 2) := by decide +kernel
theorem dX11_from_15 : decode cX11_from 15 = .ok (.aload_n 0, 1) := by decide +kernel
theorem dX11_from_16 : decode cX11_from 16 = .ok (.getfield 86, 3) := by decide +kernel
theorem dX11_from_19 : decode cX11_from 19 = .ok (.sipush 153, 3) := by decide +kernel
theorem dX11_from_22 : decode cX11_from 22 = .ok (.iaload, 1) := by decide +kernel
theorem dX11_from_23 : decode cX11_from 23 = .ok (.if_icmp .ge 25, 3) := by decide +kernel
theorem dX11_from_26 : decode cX11_from 26 = .ok (.iload_n 3, 1) := by decide +kernel
theorem dX11_from_27 : decode cX11_from 27 = .ok (.aload_n 0, 1) := by decide +kernel
theorem dX11_from_28 : decode cX11_from 28 = .ok (.getfield 86, 3) := by decide +kernel
theorem dX11_from_31 : decode cX11_from 31 = .ok (.sipush 160, 3) := by decide +kernel
theorem dX11_from_34 : decode cX11_from 34 = .ok (.iload 4, 2) := by decide +kernel
theorem dX11_from_36 : decode cX11_from 36 = .ok (.iadd, 1) := by decide +kernel
theorem dX11_from_37 : decode cX11_from 37 = .ok (.iaload, 1) := by decide +kernel
theorem dX11_from_38 : decode cX11_from 38 = .ok (.invokestatic 272, 3) := by decide +kernel
theorem dX11_from_41 : decode cX11_from 41 = .ok (.istore_n 3, 1) := by decide +kernel
theorem dX11_from_42 : decode cX11_from 42 = .ok (.iinc 4 1, 3) := by decide +kernel
theorem dX11_from_45 : decode cX11_from 45 = .ok (.goto (-32), 3) := by decide +kernel
theorem dX11_from_48 : decode cX11_from 48 = .ok (.iload_n 2, 1) := by decide +kernel
theorem dX11_from_49 : decode cX11_from 49 = .ok (.aload_n 0, 1) := by decide +kernel
theorem dX11_from_50 : decode cX11_from 50 = .ok (.iload_n 3, 1) := by decide +kernel
theorem dX11_from_51 : decode cX11_from 51 = .ok (.invokevirtual 277, 3) := by decide +kernel
theorem dX11_from_54 : decode cX11_from 54 = .ok (.iand, 1) := by decide +kernel
theorem dX11_from_55 : decode cX11_from 55 = .ok (.istore 4, 2) := by decide +kernel
theorem dX11_from_57 : decode cX11_from 57 = .ok (.iload_n 3, 1) := by decide +kernel
theorem dX11_from_58 : decode cX11_from 58 = .ok (.iconst 1, 1) := by decide +kernel
theorem dX11_from_59 : decode cX11_from 59 = .ok (.isub, 1) := by decide +kernel
theorem dX11_from_60 : decode cX11_from 60 = .ok (.istore 5, 2) := by decide +kernel
theorem dX11_from_62 : decode cX11_from 62 = .ok (.iload 5, 2) := by decide +kernel
theorem dX11_from_64 : decode cX11_from 64 = .ok (.ifCond .lt 25, 3) := by decide +kernel
theorem dX11_from_67 : decode cX11_from 67 = .ok (.iload 4, 2) := by decide +kernel
theorem dX11_from_69 : decode cX11_from 69 = .ok (.invokestatic 254, 3) := by decide +kernel
theorem dX11_from_72 : decode cX11_from 72 = .ok (.iload_n 2, 1) := by decide +kernel
theorem dX11_from_73 : decode cX11_from 73 = .ok (.iand, 1) := by decide +kernel
theorem dX11_from_74 : decode cX11_from 74 = .ok (.aload_n 0, 1) := by decide +kernel
theorem dX11_from_75 : decode cX11_from 75 = .ok (.iload 5, 2) := by decide +kernel
theorem dX11_from_77 : decode cX11_from 77 = .ok (.invokevirtual 277, 3) := by decide +kernel
theorem dX11_from_80 : decode cX11_from 80 = .ok (.iand, 1) := by decide +kernel
theorem dX11_from_81 : decode cX11_from 81 = .ok (.istore 4, 2) := by decide +kernel
theorem dX11_from_83 : decode cX11_from 83 = .ok (.iinc 5 (-1), 3) := by decide +kernel
theorem dX11_from_86 : decode cX11_from 86 = .ok (.goto (-24), 3) := by decide +kernel
theorem dX11_from_89 : decode cX11_from 89 = .ok (.iload_n 1, 1) := by decide +kernel
theorem dX11_from_90 : decode cX11_from 90 = .ok (.ifCond .eq 11, 3) := by decide +kernel
theorem dX11_from_93 : decode cX11_from 93 = .ok (.iload 4, 2) := by decide +kernel
theorem dX11_from_95 : decode cX11_from 95 = .ok (.invokestatic 238, 3) := by decide +kernel
theorem dX11_from_98 : decode cX11_from 98 = .ok (.goto 5, 3) := by decide +kernel
theorem dX11_from_101 : decode cX11_from 101 = .ok (.iload 4, 2) := by decide +kernel
theorem dX11_from_103 : decode cX11_from 103 = .ok (.ireturn, 1) := by decide +kernel
theorem dX11_seenBehind_0 : decode cX11_seenBehind 0 = .ok (.ldc_w 280, 3) := by decide +kernel
theorem dX11_seenBehind_3 : decode cX11_seenBehind 3 = .ok (.istore_n 2, 1) := by decide +kernel
theorem dX11_seenBehind_4 : decode cX11_seenBehind 4 = .ok (.iconst 0, 1) := by decide +kernel
theorem dX11_seenBehind_5 : decode cX11_seenBehind 5 = .ok (.istore_n 3, 1) := by decide +kernel
theorem dX11_seenBehind_6 : decode cX11_seenBehind 6 = .ok (.iload_n 3, 1) := by decide +kernel
theorem dX11_seenBehind_7 : decode cX11_seenBehind 7 = .ok (.aload_n 0, 1) := by decide +kernel
theorem dX11_seenBehind_8 : decode cX11_seenBehind 8 = .ok (.getfield 86, 3) := by decide +kernel
theorem dX11_seenBehind_11 : decode cX11_seenBehind 11 = .ok (.sipush 153, 3) := by decide +kernel
theorem dX11_seenBehind_14 : decode cX11_seenBehind 14 = .ok (.iaload, 1) := by decide +kernel
theorem dX11_seenBehind_15 : decode cX11_seenBehind 15 = .ok (.if_icmp .ge 38, 3) := by decide +kernel
theorem dX11_seenBehind_18 : decode cX11_seenBehind 18 = .ok (.aload_n 0, 1) := by decide +kernel
theorem dX11_seenBehind_19 : decode cX11_seenBehind 19 = .ok (.getfield 86, 3) := by decide +kernel
theorem dX11_seenBehind_22 : decode cX11_seenBehind 22 = .ok (.sipush 160, 3) := by decide +kernel
theorem dX11_seenBehind_25 : decode cX11_seenBehind 25 = .ok (.iload_n 3, 1) := by decide +kernel
theorem dX11_seenBehind_26 : decode cX11_seenBehind 26 = .ok (.iadd, 1) := by decide +kernel
theorem dX11_seenBehind_27 : decode cX11_seenBehind 27 = .ok (.iaload, 1) := by decide +kernel
theorem dX11_seenBehind_28 : decode cX11_seenBehind 28 = .ok (.iload_n 1, 1) := by decide +kernel
theorem dX11_seenBehind_29 : decode cX11_seenBehind 29 = .ok (.if_icmp .ne 18, 3) := by decide +kernel
theorem dX11_seenBehind_32 : decode cX11_seenBehind 32 = .ok (.iload_n 2, 1) := by decide +kernel
theorem dX11_seenBehind_33 : decode cX11_seenBehind 33 = .ok (.iconst 1, 1) := by decide +kernel
theorem dX11_seenBehind_34 : decode cX11_seenBehind 34 = .ok (.aload_n 0, 1) := by decide +kernel
theorem dX11_seenBehind_35 : decode cX11_seenBehind 35 = .ok (.getfield 86, 3) := by decide +kernel
theorem dX11_seenBehind_38 : decode cX11_seenBehind 38 = .ok (.sipush 154, 3) := by decide +kernel
theorem dX11_seenBehind_41 : decode cX11_seenBehind 41 = .ok (.iload_n 3, 1) := by decide +kernel
theorem dX11_seenBehind_42 : decode cX11_seenBehind 42 = .ok (.iadd, 1) := by decide +kernel
theorem dX11_seenBehind_43 : decode cX11_seenBehind 43 = .ok (.iaload, 1) := by decide +kernel
theorem dX11_seenBehind_44 : decode cX11_seenBehind 44 = .ok (.ishl, 1) := by decide +kernel
theorem dX11_seenBehind_45 : decode cX11_seenBehind 45 = .ok (.iand, 1) := by decide +kernel
theorem dX11_seenBehind_46 : decode cX11_seenBehind 46 = .ok (.istore_n 2, 1) := by decide +kernel
theorem dX11_seenBehind_47 : decode cX11_seenBehind 47 = .ok (.iinc 3 1, 3) := by decide +kernel
theorem dX11_seenBehind_50 : decode cX11_seenBehind 50 = .ok (.goto (-44), 3) := by decide +kernel
theorem dX11_seenBehind_53 : decode cX11_seenBehind 53 = .ok (.iload_n 2, 1) := by decide +kernel
theorem dX11_seenBehind_54 : decode cX11_seenBehind 54 = .ok (.ireturn, 1) := by decide +kernel
theorem dX11_likely_0 : decode cX11_likely 0 = .ok (.aload_n 0, 1) := by decide +kernel
theorem dX11_likely_1 : decode cX11_likely 1 = .ok (.getfield 86, 3) := by decide +kernel
theorem dX11_likely_4 : decode cX11_likely 4 = .ok (.bipush 84, 2) := by decide +kernel
theorem dX11_likely_6 : decode cX11_likely 6 = .ok (.iaload, 1) := by decide +kernel
theorem dX11_likely_7 : decode cX11_likely 7 = .ok (.istore 4, 2) := by decide +kernel
theorem dX11_likely_9 : decode cX11_likely 9 = .ok (.iload 4, 2) := by decide +kernel
theorem dX11_likely_11 : decode cX11_likely 11 = .ok (.ifCond .le 23, 3) := by decide +kernel
theorem dX11_likely_14 : decode cX11_likely 14 = .ok (.iload_n 1, 1) := by decide +kernel
theorem dX11_likely_15 : decode cX11_likely 15 = .ok (.iconst 1, 1) := by decide +kernel
theorem dX11_likely_16 : decode cX11_likely 16 = .ok (.bipush 10, 2) := by decide +kernel
theorem dX11_likely_18 : decode cX11_likely 18 = .ok (.invokestatic 100, 3) := by decide +kernel
theorem dX11_likely_21 : decode cX11_likely 21 = .ok (.ifCond .eq 13, 3) := by decide +kernel
theorem dX11_likely_24 : decode cX11_likely 24 = .ok (.iload_n 2, 1) := by decide +kernel
theorem dX11_likely_25 : decode cX11_likely 25 = .ok (.iconst 0, 1) := by decide +kernel
theorem dX11_likely_26 : decode cX11_likely 26 = .ok (.bipush 10, 2) := by decide +kernel
theorem dX11_likely_28 : decode cX11_likely 28 = .ok (.invokestatic 100, 3) := by decide +kernel
theorem dX11_likely_31 : decode cX11_likely 31 = .ok (.ifCond .ne 7, 3) := by decide +kernel
theorem dX11_likely_34 : decode cX11_likely 34 = .ok (.ldc2_w 281, 3) := by decide +kernel
theorem dX11_likely_37 : decode cX11_likely 37 = .ok (.lreturn, 1) := by decide +kernel
theorem dX11_likely_38 : decode cX11_likely 38 = .ok (.lconst 1, 1) := by decide +kernel
theorem dX11_likely_39 : decode cX11_likely 39 = .ok (.lstore 5, 2) := by decide +kernel
theorem dX11_likely_41 : decode cX11_likely 41 = .ok (.iconst 0, 1) := by decide +kernel
theorem dX11_likely_42 : decode cX11_likely 42 = .ok (.istore 7, 2) := by decide +kernel
theorem dX11_likely_44 : decode cX11_likely 44 = .ok (.iload 7, 2) := by decide +kernel
theorem dX11_likely_46 : decode cX11_likely 46 = .ok (.iload_n 2, 1) := by decide +kernel
theorem dX11_likely_47 : decode cX11_likely 47 = .ok (.if_icmp .ge 25, 3) := by decide +kernel
theorem dX11_likely_50 : decode cX11_likely 50 = .ok (.lload 5, 2) := by decide +kernel
theorem dX11_likely_52 : decode cX11_likely 52 = .ok (.iload_n 1, 1) := by decide +kernel
theorem dX11_likely_53 : decode cX11_likely 53 = .ok (.iload 7, 2) := by decide +kernel
theorem dX11_likely_55 : decode cX11_likely 55 = .ok (.isub, 1) := by decide +kernel
theorem dX11_likely_56 : decode cX11_likely 56 = .ok (.i2l, 1) := by decide +kernel
theorem dX11_likely_57 : decode cX11_likely 57 = .ok (.lmul, 1) := by decide +kernel
theorem dX11_likely_58 : decode cX11_likely 58 = .ok (.iload 7, 2) := by decide +kernel
theorem dX11_likely_60 : decode cX11_likely 60 = .ok (.iconst 1, 1) := by decide +kernel
theorem dX11_likely_61 : decode cX11_likely 61 = .ok (.iadd, 1) := by decide +kernel
theorem dX11_likely_62 : decode cX11_likely 62 = .ok (.i2l, 1) := by decide +kernel
theorem dX11_likely_63 : decode cX11_likely 63 = .ok (.ldiv, 1) := by decide +kernel
theorem dX11_likely_64 : decode cX11_likely 64 = .ok (.lstore 5, 2) := by decide +kernel
theorem dX11_likely_66 : decode cX11_likely 66 = .ok (.iinc 7 1, 3) := by decide +kernel
theorem dX11_likely_69 : decode cX11_likely 69 = .ok (.goto (-25), 3) := by decide +kernel
theorem dX11_likely_72 : decode cX11_likely 72 = .ok (.iconst 0, 1) := by decide +kernel
theorem dX11_likely_73 : decode cX11_likely 73 = .ok (.istore 7, 2) := by decide +kernel
theorem dX11_likely_75 : decode cX11_likely 75 = .ok (.iload 7, 2) := by decide +kernel
theorem dX11_likely_77 : decode cX11_likely 77 = .ok (.iload_n 1, 1) := by decide +kernel
theorem dX11_likely_78 : decode cX11_likely 78 = .ok (.iload_n 2, 1) := by decide +kernel
theorem dX11_likely_79 : decode cX11_likely 79 = .ok (.isub, 1) := by decide +kernel
theorem dX11_likely_80 : decode cX11_likely 80 = .ok (.if_icmp .ge 19, 3) := by decide +kernel
theorem dX11_likely_83 : decode cX11_likely 83 = .ok (.lload 5, 2) := by decide +kernel
theorem dX11_likely_85 : decode cX11_likely 85 = .ok (.iload 4, 2) := by decide +kernel
theorem dX11_likely_87 : decode cX11_likely 87 = .ok (.iconst 1, 1) := by decide +kernel
theorem dX11_likely_88 : decode cX11_likely 88 = .ok (.isub, 1) := by decide +kernel
theorem dX11_likely_89 : decode cX11_likely 89 = .ok (.i2l, 1) := by decide +kernel
theorem dX11_likely_90 : decode cX11_likely 90 = .ok (.lmul, 1) := by decide +kernel
theorem dX11_likely_91 : decode cX11_likely 91 = .ok (.lstore 5, 2) := by decide +kernel
theorem dX11_likely_93 : decode cX11_likely 93 = .ok (.iinc 7 1, 3) := by decide +kernel
theorem dX11_likely_96 : decode cX11_likely 96 = .ok (.goto (-21), 3) := by decide +kernel
theorem dX11_likely_99 : decode cX11_likely 99 = .ok (.lconst 1, 1) := by decide +kernel
theorem dX11_likely_100 : decode cX11_likely 100 = .ok (.lstore 7, 2) := by decide +kernel
theorem dX11_likely_102 : decode cX11_likely 102 = .ok (.iconst 0, 1) := by decide +kernel
theorem dX11_likely_103 : decode cX11_likely 103 = .ok (.istore 9, 2) := by decide +kernel
theorem dX11_likely_105 : decode cX11_likely 105 = .ok (.iload 9, 2) := by decide +kernel
theorem dX11_likely_107 : decode cX11_likely 107 = .ok (.iload_n 1, 1) := by decide +kernel
theorem dX11_likely_108 : decode cX11_likely 108 = .ok (.if_icmp .ge 17, 3) := by decide +kernel
theorem dX11_likely_111 : decode cX11_likely 111 = .ok (.lload 7, 2) := by decide +kernel
theorem dX11_likely_113 : decode cX11_likely 113 = .ok (.iload 4, 2) := by decide +kernel
theorem dX11_likely_115 : decode cX11_likely 115 = .ok (.i2l, 1) := by decide +kernel
theorem dX11_likely_116 : decode cX11_likely 116 = .ok (.lmul, 1) := by decide +kernel
theorem dX11_likely_117 : decode cX11_likely 117 = .ok (.lstore 7, 2) := by decide +kernel
theorem dX11_likely_119 : decode cX11_likely 119 = .ok (.iinc 9 1, 3) := by decide +kernel
theorem dX11_likely_122 : decode cX11_likely 122 = .ok (.goto (-17), 3) := by decide +kernel
theorem dX11_likely_125 : decode cX11_likely 125 = .ok (.iload_n 3, 1) := by decide +kernel
theorem dX11_likely_126 : decode cX11_likely 126 = .ok (.ifCond .eq 8, 3) := by decide +kernel
theorem dX11_likely_129 : decode cX11_likely 129 = .ok (.lload 7, 2) := by decide +kernel
theorem dX11_likely_131 : decode cX11_likely 131 = .ok (.goto 5, 3) := by decide +kernel
theorem dX11_likely_134 : decode cX11_likely 134 = .ok (.lload 5, 2) := by decide +kernel
theorem dX11_likely_136 : decode cX11_likely 136 = .ok (.lload 5, 2) := by decide +kernel
theorem dX11_likely_138 : decode cX11_likely 138 = .ok (.lload 7, 2) := by decide +kernel
theorem dX11_likely_140 : decode cX11_likely 140 = .ok (.invokestatic 283, 3) := by decide +kernel
theorem dX11_likely_143 : decode cX11_likely 143 = .ok (.ldiv, 1) := by decide +kernel
theorem dX11_likely_144 : decode cX11_likely 144 = .ok (.lreturn, 1) := by decide +kernel
theorem dX11_days_0 : decode cX11_days 0 = .ok (.aload_n 0, 1) := by decide +kernel
theorem dX11_days_1 : decode cX11_days 1 = .ok (.getfield 86, 3) := by decide +kernel
theorem dX11_days_4 : decode cX11_days 4 = .ok (.bipush 84, 2) := by decide +kernel
theorem dX11_days_6 : decode cX11_days 6 = .ok (.iaload, 1) := by decide +kernel
theorem dX11_days_7 : decode cX11_days 7 = .ok (.istore_n 2, 1) := by decide +kernel
theorem dX11_days_8 : decode cX11_days 8 = .ok (.iload_n 2, 1) := by decide +kernel
theorem dX11_days_9 : decode cX11_days 9 = .ok (.ifCond .gt 5, 3) := by decide +kernel
theorem dX11_days_12 : decode cX11_days 12 = .ok (.iconst (-1), 1) := by decide +kernel
theorem dX11_days_13 : decode cX11_days 13 = .ok (.ireturn, 1) := by decide +kernel
theorem dX11_days_14 : decode cX11_days 14 = .ok (.iconst 0, 1) := by decide +kernel
theorem dX11_days_15 : decode cX11_days 15 = .ok (.istore_n 3, 1) := by decide +kernel
theorem dX11_days_16 : decode cX11_days 16 = .ok (.iconst 1, 1) := by decide +kernel
theorem dX11_days_17 : decode cX11_days 17 = .ok (.istore 4, 2) := by decide +kernel
theorem dX11_days_19 : decode cX11_days 19 = .ok (.iconst 1, 1) := by decide +kernel
theorem dX11_days_20 : decode cX11_days 20 = .ok (.istore 5, 2) := by decide +kernel
theorem dX11_days_22 : decode cX11_days 22 = .ok (.iload 5, 2) := by decide +kernel
theorem dX11_days_24 : decode cX11_days 24 = .ok (.iload_n 2, 1) := by decide +kernel
theorem dX11_days_25 : decode cX11_days 25 = .ok (.if_icmp .gt 26, 3) := by decide +kernel
theorem dX11_days_28 : decode cX11_days 28 = .ok (.iload_n 3, 1) := by decide +kernel
theorem dX11_days_29 : decode cX11_days 29 = .ok (.iload 5, 2) := by decide +kernel
theorem dX11_days_31 : decode cX11_days 31 = .ok (.imul, 1) := by decide +kernel
theorem dX11_days_32 : decode cX11_days 32 = .ok (.iload_n 2, 1) := by decide +kernel
theorem dX11_days_33 : decode cX11_days 33 = .ok (.iload 4, 2) := by decide +kernel
theorem dX11_days_35 : decode cX11_days 35 = .ok (.imul, 1) := by decide +kernel
theorem dX11_days_36 : decode cX11_days 36 = .ok (.iadd, 1) := by decide +kernel
theorem dX11_days_37 : decode cX11_days 37 = .ok (.istore_n 3, 1) := by decide +kernel
theorem dX11_days_38 : decode cX11_days 38 = .ok (.iload 4, 2) := by decide +kernel
theorem dX11_days_40 : decode cX11_days 40 = .ok (.iload 5, 2) := by decide +kernel
theorem dX11_days_42 : decode cX11_days 42 = .ok (.imul, 1) := by decide +kernel
theorem dX11_days_43 : decode cX11_days 43 = .ok (.istore 4, 2) := by decide +kernel
theorem dX11_days_45 : decode cX11_days 45 = .ok (.iinc 5 1, 3) := by decide +kernel
theorem dX11_days_48 : decode cX11_days 48 = .ok (.goto (-26), 3) := by decide +kernel
theorem dX11_days_51 : decode cX11_days 51 = .ok (.iload_n 1, 1) := by decide +kernel
theorem dX11_days_52 : decode cX11_days 52 = .ok (.ifCond .eq 8, 3) := by decide +kernel
theorem dX11_days_55 : decode cX11_days 55 = .ok (.iload 4, 2) := by decide +kernel
theorem dX11_days_57 : decode cX11_days 57 = .ok (.goto 4, 3) := by decide +kernel
theorem dX11_days_60 : decode cX11_days 60 = .ok (.iload_n 3, 1) := by decide +kernel
theorem dX11_days_61 : decode cX11_days 61 = .ok (.iload_n 3, 1) := by decide +kernel
theorem dX11_days_62 : decode cX11_days 62 = .ok (.i2l, 1) := by decide +kernel
theorem dX11_days_63 : decode cX11_days 63 = .ok (.iload 4, 2) := by decide +kernel
theorem dX11_days_65 : decode cX11_days 65 = .ok (.i2l, 1) := by decide +kernel
theorem dX11_days_66 : decode cX11_days 66 = .ok (.invokestatic 283, 3) := by decide +kernel
theorem dX11_days_69 : decode cX11_days 69 = .ok (.l2i, 1) := by decide +kernel
theorem dX11_days_70 : decode cX11_days 70 = .ok (.idiv, 1) := by decide +kernel
theorem dX11_days_71 : decode cX11_days 71 = .ok (.ireturn, 1) := by decide +kernel
theorem dX11_commonPart_0 : decode cX11_commonPart 0 = .ok (.lload_n 0, 1) := by decide +kernel
theorem dX11_commonPart_1 : decode cX11_commonPart 1 = .ok (.lstore 4, 2) := by decide +kernel
theorem dX11_commonPart_3 : decode cX11_commonPart 3 = .ok (.lload_n 2, 1) := by decide +kernel
theorem dX11_commonPart_4 : decode cX11_commonPart 4 = .ok (.lstore 6, 2) := by decide +kernel
theorem dX11_commonPart_6 : decode cX11_commonPart 6 = .ok (.iconst 0, 1) := by decide +kernel
theorem dX11_commonPart_7 : decode cX11_commonPart 7 = .ok (.istore 8, 2) := by decide +kernel
theorem dX11_commonPart_9 : decode cX11_commonPart 9 = .ok (.iload 8, 2) := by decide +kernel
theorem dX11_commonPart_11 : decode cX11_commonPart 11 = .ok (.sipush 200, 3) := by decide +kernel
theorem dX11_commonPart_14 : decode cX11_commonPart 14 = .ok (.if_icmp .ge 31, 3) := by decide +kernel
theorem dX11_commonPart_17 : decode cX11_commonPart 17 = .ok (.lload 6, 2) := by decide +kernel
theorem dX11_commonPart_19 : decode cX11_commonPart 19 = .ok (.lconst 0, 1) := by decide +kernel
theorem dX11_commonPart_20 : decode cX11_commonPart 20 = .ok (.lcmp, 1) := by decide +kernel
theorem dX11_commonPart_21 : decode cX11_commonPart 21 = .ok (.ifCond .eq 24, 3) := by decide +kernel
theorem dX11_commonPart_24 : decode cX11_commonPart 24 = .ok (.lload 4, 2) := by decide +kernel
theorem dX11_commonPart_26 : decode cX11_commonPart 26 = .ok (.lload 6, 2) := by decide +kernel
theorem dX11_commonPart_28 : decode cX11_commonPart 28 = .ok (.lrem, 1) := by decide +kernel
theorem dX11_commonPart_29 : decode cX11_commonPart 29 = .ok (.lstore 9, 2) := by decide +kernel
theorem dX11_commonPart_31 : decode cX11_commonPart 31 = .ok (.lload 6, 2) := by decide +kernel
theorem dX11_commonPart_33 : decode cX11_commonPart 33 = .ok (.lstore 4, 2) := by decide +kernel
theorem dX11_commonPart_35 : decode cX11_commonPart 35 = .ok (.lload 9, 2) := by decide +kernel
theorem dX11_commonPart_37 : decode cX11_commonPart 37 = .ok (.lstore 6, 2) := by decide +kernel
theorem dX11_commonPart_39 : decode cX11_commonPart 39 = .ok (.iinc 8 1, 3) := by decide +kernel
theorem dX11_commonPart_42 : decode cX11_commonPart 42 = .ok (.goto (-33), 3) := by decide +kernel
theorem dX11_commonPart_45 : decode cX11_commonPart 45 = .ok (.lload 4, 2) := by decide +kernel
theorem dX11_commonPart_47 : decode cX11_commonPart 47 = .ok (.lconst 1, 1) := by decide +kernel
theorem dX11_commonPart_48 : decode cX11_commonPart 48 = .ok (.invokestatic 287, 3) := by decide +kernel
theorem dX11_commonPart_51 : decode cX11_commonPart 51 = .ok (.lreturn, 1) := by decide +kernel
theorem dX11_said_0 : decode cX11_said 0 = .ok (.aload_n 0, 1) := by decide +kernel
theorem dX11_said_1 : decode cX11_said 1 = .ok (.getfield 86, 3) := by decide +kernel
theorem dX11_said_4 : decode cX11_said 4 = .ok (.sipush 166, 3) := by decide +kernel
theorem dX11_said_7 : decode cX11_said 7 = .ok (.iaload, 1) := by decide +kernel
theorem dX11_said_8 : decode cX11_said 8 = .ok (.istore_n 3, 1) := by decide +kernel
theorem dX11_said_9 : decode cX11_said 9 = .ok (.iload_n 1, 1) := by decide +kernel
theorem dX11_said_10 : decode cX11_said 10 = .ok (.iconst (-1), 1) := by decide +kernel
theorem dX11_said_11 : decode cX11_said 11 = .ok (.if_icmp .ne 14, 3) := by decide +kernel
theorem dX11_said_14 : decode cX11_said 14 = .ok (.aload_n 0, 1) := by decide +kernel
theorem dX11_said_15 : decode cX11_said 15 = .ok (.getfield 86, 3) := by decide +kernel
theorem dX11_said_18 : decode cX11_said 18 = .ok (.sipush 166, 3) := by decide +kernel
theorem dX11_said_21 : decode cX11_said 21 = .ok (.iconst 0, 1) := by decide +kernel
theorem dX11_said_22 : decode cX11_said 22 = .ok (.iastore, 1) := by decide +kernel
theorem dX11_said_23 : decode cX11_said 23 = .ok (.iconst 0, 1) := by decide +kernel
theorem dX11_said_24 : decode cX11_said 24 = .ok (.ireturn, 1) := by decide +kernel
theorem dX11_said_25 : decode cX11_said 25 = .ok (.aload_n 0, 1) := by decide +kernel
theorem dX11_said_26 : decode cX11_said 26 = .ok (.iload_n 1, 1) := by decide +kernel
theorem dX11_said_27 : decode cX11_said 27 = .ok (.invokevirtual 125, 3) := by decide +kernel
theorem dX11_said_30 : decode cX11_said 30 = .ok (.ifCond .eq 22, 3) := by decide +kernel
theorem dX11_said_33 : decode cX11_said 33 = .ok (.iload_n 2, 1) := by decide +kernel
theorem dX11_said_34 : decode cX11_said 34 = .ok (.sipush (-999), 3) := by decide +kernel
theorem dX11_said_37 : decode cX11_said 37 = .ok (.sipush 999, 3) := by decide +kernel
theorem dX11_said_40 : decode cX11_said 40 = .ok (.invokestatic 100, 3) := by decide +kernel
theorem dX11_said_43 : decode cX11_said 43 = .ok (.ifCond .eq 9, 3) := by decide +kernel
theorem dX11_said_46 : decode cX11_said 46 = .ok (.iload_n 3, 1) := by decide +kernel
theorem dX11_said_47 : decode cX11_said 47 = .ok (.bipush 8, 2) := by decide +kernel
theorem dX11_said_49 : decode cX11_said 49 = .ok (.if_icmp .lt 6, 3) := by decide +kernel
theorem dX11_said_52 : decode cX11_said 52 = .ok (.bipush (-2), 2) := by decide +kernel
theorem dX11_said_54 : decode cX11_said 54 = .ok (.ireturn, 1) := by decide +kernel
theorem dX11_said_55 : decode cX11_said 55 = .ok (.aload_n 0, 1) := by decide +kernel
theorem dX11_said_56 : decode cX11_said 56 = .ok (.getfield 86, 3) := by decide +kernel
theorem dX11_said_59 : decode cX11_said 59 = .ok (.sipush 167, 3) := by decide +kernel
theorem dX11_said_62 : decode cX11_said 62 = .ok (.iload_n 3, 1) := by decide +kernel
theorem dX11_said_63 : decode cX11_said 63 = .ok (.iadd, 1) := by decide +kernel
theorem dX11_said_64 : decode cX11_said 64 = .ok (.iload_n 1, 1) := by decide +kernel
theorem dX11_said_65 : decode cX11_said 65 = .ok (.iastore, 1) := by decide +kernel
theorem dX11_said_66 : decode cX11_said 66 = .ok (.aload_n 0, 1) := by decide +kernel
theorem dX11_said_67 : decode cX11_said 67 = .ok (.getfield 86, 3) := by decide +kernel
theorem dX11_said_70 : decode cX11_said 70 = .ok (.sipush 175, 3) := by decide +kernel
theorem dX11_said_73 : decode cX11_said 73 = .ok (.iload_n 3, 1) := by decide +kernel
theorem dX11_said_74 : decode cX11_said 74 = .ok (.iadd, 1) := by decide +kernel
theorem dX11_said_75 : decode cX11_said 75 = .ok (.iload_n 2, 1) := by decide +kernel
theorem dX11_said_76 : decode cX11_said 76 = .ok (.iastore, 1) := by decide +kernel
theorem dX11_said_77 : decode cX11_said 77 = .ok (.aload_n 0, 1) := by decide +kernel
theorem dX11_said_78 : decode cX11_said 78 = .ok (.getfield 86, 3) := by decide +kernel
theorem dX11_said_81 : decode cX11_said 81 = .ok (.sipush 166, 3) := by decide +kernel
theorem dX11_said_84 : decode cX11_said 84 = .ok (.iload_n 3, 1) := by decide +kernel
theorem dX11_said_85 : decode cX11_said 85 = .ok (.iconst 1, 1) := by decide +kernel
theorem dX11_said_86 : decode cX11_said 86 = .ok (.iadd, 1) := by decide +kernel
theorem dX11_said_87 : decode cX11_said 87 = .ok (.iastore, 1) := by decide +kernel
theorem dX11_said_88 : decode cX11_said 88 = .ok (.iload_n 3, 1) := by decide +kernel
theorem dX11_said_89 : decode cX11_said 89 = .ok (.iconst 1, 1) := by decide +kernel
theorem dX11_said_90 : decode cX11_said 90 = .ok (.iadd, 1) := by decide +kernel
theorem dX11_said_91 : decode cX11_said 91 = .ok (.ireturn, 1) := by decide +kernel
theorem dX11_whose_0 : decode cX11_whose 0 = .ok (.iconst 0, 1) := by decide +kernel
theorem dX11_whose_1 : decode cX11_whose 1 = .ok (.istore_n 1, 1) := by decide +kernel
theorem dX11_whose_2 : decode cX11_whose 2 = .ok (.iconst 0, 1) := by decide +kernel
theorem dX11_whose_3 : decode cX11_whose 3 = .ok (.istore_n 2, 1) := by decide +kernel
theorem dX11_whose_4 : decode cX11_whose 4 = .ok (.iload_n 2, 1) := by decide +kernel
theorem dX11_whose_5 : decode cX11_whose 5 = .ok (.aload_n 0, 1) := by decide +kernel
theorem dX11_whose_6 : decode cX11_whose 6 = .ok (.getfield 86, 3) := by decide +kernel
theorem dX11_whose_9 : decode cX11_whose 9 = .ok (.bipush 117, 2) := by decide +kernel
theorem dX11_whose_11 : decode cX11_whose 11 = .ok (.iaload, 1) := by decide +kernel
theorem dX11_whose_12 : decode cX11_whose 12 = .ok (.if_icmp .ge 23, 3) := by decide +kernel
theorem dX11_whose_15 : decode cX11_whose 15 = .ok (.aload_n 0, 1) := by decide +kernel
theorem dX11_whose_16 : decode cX11_whose 16 = .ok (.iload_n 2, 1) := by decide +kernel
theorem dX11_whose_17 : decode cX11_whose 17 = .ok (.invokevirtual 289, 3) := by decide +kernel
theorem dX11_whose_20 : decode cX11_whose 20 = .ok (.ifCond .eq 9, 3) := by decide +kernel
theorem dX11_whose_23 : decode cX11_whose 23 = .ok (.iload_n 1, 1) := by decide +kernel
theorem dX11_whose_24 : decode cX11_whose 24 = .ok (.iconst 1, 1) := by decide +kernel
theorem dX11_whose_25 : decode cX11_whose 25 = .ok (.iload_n 2, 1) := by decide +kernel
theorem dX11_whose_26 : decode cX11_whose 26 = .ok (.ishl, 1) := by decide +kernel
theorem dX11_whose_27 : decode cX11_whose 27 = .ok (.ior, 1) := by decide +kernel
theorem dX11_whose_28 : decode cX11_whose 28 = .ok (.istore_n 1, 1) := by decide +kernel
theorem dX11_whose_29 : decode cX11_whose 29 = .ok (.iinc 2 1, 3) := by decide +kernel
theorem dX11_whose_32 : decode cX11_whose 32 = .ok (.goto (-28), 3) := by decide +kernel
theorem dX11_whose_35 : decode cX11_whose 35 = .ok (.iload_n 1, 1) := by decide +kernel
theorem dX11_whose_36 : decode cX11_whose 36 = .ok (.ireturn, 1) := by decide +kernel
theorem dX11_saysAll_0 : decode cX11_saysAll 0 = .ok (.iconst 0, 1) := by decide +kernel
theorem dX11_saysAll_1 : decode cX11_saysAll 1 = .ok (.istore_n 2, 1) := by decide +kernel
theorem dX11_saysAll_2 : decode cX11_saysAll 2 = .ok (.iload_n 2, 1) := by decide +kernel
theorem dX11_saysAll_3 : decode cX11_saysAll 3 = .ok (.aload_n 0, 1) := by decide +kernel
theorem dX11_saysAll_4 : decode cX11_saysAll 4 = .ok (.getfield 86, 3) := by decide +kernel
theorem dX11_saysAll_7 : decode cX11_saysAll 7 = .ok (.sipush 166, 3) := by decide +kernel
theorem dX11_saysAll_10 : decode cX11_saysAll 10 = .ok (.iaload, 1) := by decide +kernel
theorem dX11_saysAll_11 : decode cX11_saysAll 11 = .ok (.if_icmp .ge 52, 3) := by decide +kernel
theorem dX11_saysAll_14 : decode cX11_saysAll 14 = .ok (.aload_n 0, 1) := by decide +kernel
theorem dX11_saysAll_15 : decode cX11_saysAll 15 = .ok (.getfield 86, 3) := by decide +kernel
theorem dX11_saysAll_18 : decode cX11_saysAll 18 = .ok (.sipush 167, 3) := by decide +kernel
theorem dX11_saysAll_21 : decode cX11_saysAll 21 = .ok (.iload_n 2, 1) := by decide +kernel
theorem dX11_saysAll_22 : decode cX11_saysAll 22 = .ok (.iadd, 1) := by decide +kernel
theorem dX11_saysAll_23 : decode cX11_saysAll 23 = .ok (.iaload, 1) := by decide +kernel
theorem dX11_saysAll_24 : decode cX11_saysAll 24 = .ok (.istore_n 3, 1) := by decide +kernel
theorem dX11_saysAll_25 : decode cX11_saysAll 25 = .ok (.aload_n 0, 1) := by decide +kernel
theorem dX11_saysAll_26 : decode cX11_saysAll 26 = .ok (.getfield 76, 3) := by decide +kernel
theorem dX11_saysAll_29 : decode cX11_saysAll 29 = .ok (.iload_n 1, 1) := by decide +kernel
theorem dX11_saysAll_30 : decode cX11_saysAll 30 = .ok (.iload_n 3, 1) := by decide +kernel
theorem dX11_saysAll_31 : decode cX11_saysAll 31 = .ok (.aload_n 0, 1) := by decide +kernel
theorem dX11_saysAll_32 : decode cX11_saysAll 32 = .ok (.getfield 76, 3) := by decide +kernel
theorem dX11_saysAll_35 : decode cX11_saysAll 35 = .ok (.iload_n 3, 1) := by decide +kernel
theorem dX11_saysAll_36 : decode cX11_saysAll 36 = .ok (.invokevirtual 187, 3) := by decide +kernel
theorem dX11_saysAll_39 : decode cX11_saysAll 39 = .ok (.invokevirtual 190, 3) := by decide +kernel
theorem dX11_saysAll_42 : decode cX11_saysAll 42 = .ok (.aload_n 0, 1) := by decide +kernel
theorem dX11_saysAll_43 : decode cX11_saysAll 43 = .ok (.getfield 86, 3) := by decide +kernel
theorem dX11_saysAll_46 : decode cX11_saysAll 46 = .ok (.sipush 175, 3) := by decide +kernel
theorem dX11_saysAll_49 : decode cX11_saysAll 49 = .ok (.iload_n 2, 1) := by decide +kernel
theorem dX11_saysAll_50 : decode cX11_saysAll 50 = .ok (.iadd, 1) := by decide +kernel
theorem dX11_saysAll_51 : decode cX11_saysAll 51 = .ok (.iaload, 1) := by decide +kernel
theorem dX11_saysAll_52 : decode cX11_saysAll 52 = .ok (.if_icmp .eq 5, 3) := by decide +kernel
theorem dX11_saysAll_55 : decode cX11_saysAll 55 = .ok (.iconst 0, 1) := by decide +kernel
theorem dX11_saysAll_56 : decode cX11_saysAll 56 = .ok (.ireturn, 1) := by decide +kernel
theorem dX11_saysAll_57 : decode cX11_saysAll 57 = .ok (.iinc 2 1, 3) := by decide +kernel
theorem dX11_saysAll_60 : decode cX11_saysAll 60 = .ok (.goto (-58), 3) := by decide +kernel
theorem dX11_saysAll_63 : decode cX11_saysAll 63 = .ok (.iconst 1, 1) := by decide +kernel
theorem dX11_saysAll_64 : decode cX11_saysAll 64 = .ok (.ireturn, 1) := by decide +kernel
theorem dX11_thirsty_0 : decode cX11_thirsty 0 = .ok (.iconst 0, 1) := by decide +kernel
theorem dX11_thirsty_1 : decode cX11_thirsty 1 = .ok (.istore_n 2, 1) := by decide +kernel
theorem dX11_thirsty_2 : decode cX11_thirsty 2 = .ok (.iconst 0, 1) := by decide +kernel
theorem dX11_thirsty_3 : decode cX11_thirsty 3 = .ok (.istore_n 3, 1) := by decide +kernel
theorem dX11_thirsty_4 : decode cX11_thirsty 4 = .ok (.iconst 0, 1) := by decide +kernel
theorem dX11_thirsty_5 : decode cX11_thirsty 5 = .ok (.istore 4, 2) := by decide +kernel
theorem dX11_thirsty_7 : decode cX11_thirsty 7 = .ok (.iload 4, 2) := by decide +kernel
theorem dX11_thirsty_9 : decode cX11_thirsty 9 = .ok (.bipush 30, 2) := by decide +kernel
theorem dX11_thirsty_11 : decode cX11_thirsty 11 = .ok (.if_icmp .ge 34, 3) := by decide +kernel
theorem dX11_thirsty_14 : decode cX11_thirsty 14 = .ok (.aload_n 0, 1) := by decide +kernel
theorem dX11_thirsty_15 : decode cX11_thirsty 15 = .ok (.iload 4, 2) := by decide +kernel
theorem dX11_thirsty_17 : decode cX11_thirsty 17 = .ok (.invokevirtual 292, 3) := by decide +kernel
theorem dX11_thirsty_20 : decode cX11_thirsty 20 = .ok (.ifCond .le 19, 3) := by decide +kernel
theorem dX11_thirsty_23 : decode cX11_thirsty 23 = .ok (.iload_n 2, 1) := by decide +kernel
theorem dX11_thirsty_24 : decode cX11_thirsty 24 = .ok (.iconst 1, 1) := by decide +kernel
theorem dX11_thirsty_25 : decode cX11_thirsty 25 = .ok (.iload 4, 2) := by decide +kernel
theorem dX11_thirsty_27 : decode cX11_thirsty 27 = .ok (.ishl, 1) := by decide +kernel
theorem dX11_thirsty_28 : decode cX11_thirsty 28 = .ok (.ior, 1) := by decide +kernel
theorem dX11_thirsty_29 : decode cX11_thirsty 29 = .ok (.istore_n 2, 1) := by decide +kernel
theorem dX11_thirsty_30 : decode cX11_thirsty 30 = .ok (.iload_n 3, 1) := by decide +kernel
theorem dX11_thirsty_31 : decode cX11_thirsty 31 = .ok (.aload_n 0, 1) := by decide +kernel
theorem dX11_thirsty_32 : decode cX11_thirsty 32 = .ok (.iload 4, 2) := by decide +kernel
theorem dX11_thirsty_34 : decode cX11_thirsty 34 = .ok (.invokevirtual 292, 3) := by decide +kernel
theorem dX11_thirsty_37 : decode cX11_thirsty 37 = .ok (.iadd, 1) := by decide +kernel
theorem dX11_thirsty_38 : decode cX11_thirsty 38 = .ok (.istore_n 3, 1) := by decide +kernel
theorem dX11_thirsty_39 : decode cX11_thirsty 39 = .ok (.iinc 4 1, 3) := by decide +kernel
theorem dX11_thirsty_42 : decode cX11_thirsty 42 = .ok (.goto (-35), 3) := by decide +kernel
theorem dX11_thirsty_45 : decode cX11_thirsty 45 = .ok (.iload_n 1, 1) := by decide +kernel
theorem dX11_thirsty_46 : decode cX11_thirsty 46 = .ok (.ifCond .eq 7, 3) := by decide +kernel
theorem dX11_thirsty_49 : decode cX11_thirsty 49 = .ok (.iload_n 3, 1) := by decide +kernel
theorem dX11_thirsty_50 : decode cX11_thirsty 50 = .ok (.goto 4, 3) := by decide +kernel
theorem dX11_thirsty_53 : decode cX11_thirsty 53 = .ok (.iload_n 2, 1) := by decide +kernel
theorem dX11_thirsty_54 : decode cX11_thirsty 54 = .ok (.ireturn, 1) := by decide +kernel
theorem dX11_driest_0 : decode cX11_driest 0 = .ok (.iconst (-1), 1) := by decide +kernel
theorem dX11_driest_1 : decode cX11_driest 1 = .ok (.istore_n 1, 1) := by decide +kernel
theorem dX11_driest_2 : decode cX11_driest 2 = .ok (.iconst 0, 1) := by decide +kernel
theorem dX11_driest_3 : decode cX11_driest 3 = .ok (.istore_n 2, 1) := by decide +kernel
theorem dX11_driest_4 : decode cX11_driest 4 = .ok (.iconst 0, 1) := by decide +kernel
theorem dX11_driest_5 : decode cX11_driest 5 = .ok (.istore_n 3, 1) := by decide +kernel
theorem dX11_driest_6 : decode cX11_driest 6 = .ok (.iload_n 3, 1) := by decide +kernel
theorem dX11_driest_7 : decode cX11_driest 7 = .ok (.bipush 30, 2) := by decide +kernel
theorem dX11_driest_9 : decode cX11_driest 9 = .ok (.if_icmp .ge 26, 3) := by decide +kernel
theorem dX11_driest_12 : decode cX11_driest 12 = .ok (.aload_n 0, 1) := by decide +kernel
theorem dX11_driest_13 : decode cX11_driest 13 = .ok (.iload_n 3, 1) := by decide +kernel
theorem dX11_driest_14 : decode cX11_driest 14 = .ok (.invokevirtual 292, 3) := by decide +kernel
theorem dX11_driest_17 : decode cX11_driest 17 = .ok (.iload_n 2, 1) := by decide +kernel
theorem dX11_driest_18 : decode cX11_driest 18 = .ok (.if_icmp .le 11, 3) := by decide +kernel
theorem dX11_driest_21 : decode cX11_driest 21 = .ok (.aload_n 0, 1) := by decide +kernel
theorem dX11_driest_22 : decode cX11_driest 22 = .ok (.iload_n 3, 1) := by decide +kernel
theorem dX11_driest_23 : decode cX11_driest 23 = .ok (.invokevirtual 292, 3) := by decide +kernel
theorem dX11_driest_26 : decode cX11_driest 26 = .ok (.istore_n 2, 1) := by decide +kernel
theorem dX11_driest_27 : decode cX11_driest 27 = .ok (.iload_n 3, 1) := by decide +kernel
theorem dX11_driest_28 : decode cX11_driest 28 = .ok (.istore_n 1, 1) := by decide +kernel
theorem dX11_driest_29 : decode cX11_driest 29 = .ok (.iinc 3 1, 3) := by decide +kernel
theorem dX11_driest_32 : decode cX11_driest 32 = .ok (.goto (-26), 3) := by decide +kernel
theorem dX11_driest_35 : decode cX11_driest 35 = .ok (.iload_n 1, 1) := by decide +kernel
theorem dX11_driest_36 : decode cX11_driest 36 = .ok (.ireturn, 1) := by decide +kernel
theorem dX11_lacks_0 : decode cX11_lacks 0 = .ok (.aload_n 0, 1) := by decide +kernel
theorem dX11_lacks_1 : decode cX11_lacks 1 = .ok (.getfield 86, 3) := by decide +kernel
theorem dX11_lacks_4 : decode cX11_lacks 4 = .ok (.bipush 86, 2) := by decide +kernel
theorem dX11_lacks_6 : decode cX11_lacks 6 = .ok (.iload_n 1, 1) := by decide +kernel
theorem dX11_lacks_7 : decode cX11_lacks 7 = .ok (.iadd, 1) := by decide +kernel
theorem dX11_lacks_8 : decode cX11_lacks 8 = .ok (.iaload, 1) := by decide +kernel
theorem dX11_lacks_9 : decode cX11_lacks 9 = .ok (.aload_n 0, 1) := by decide +kernel
theorem dX11_lacks_10 : decode cX11_lacks 10 = .ok (.getfield 86, 3) := by decide +kernel
theorem dX11_lacks_13 : decode cX11_lacks 13 = .ok (.bipush 20, 2) := by decide +kernel
theorem dX11_lacks_15 : decode cX11_lacks 15 = .ok (.iload_n 1, 1) := by decide +kernel
theorem dX11_lacks_16 : decode cX11_lacks 16 = .ok (.iadd, 1) := by decide +kernel
theorem dX11_lacks_17 : decode cX11_lacks 17 = .ok (.iaload, 1) := by decide +kernel
theorem dX11_lacks_18 : decode cX11_lacks 18 = .ok (.isub, 1) := by decide +kernel
theorem dX11_lacks_19 : decode cX11_lacks 19 = .ok (.ireturn, 1) := by decide +kernel
theorem dX11_wettest_0 : decode cX11_wettest 0 = .ok (.iconst (-1), 1) := by decide +kernel
theorem dX11_wettest_1 : decode cX11_wettest 1 = .ok (.istore_n 1, 1) := by decide +kernel
theorem dX11_wettest_2 : decode cX11_wettest 2 = .ok (.iconst 0, 1) := by decide +kernel
theorem dX11_wettest_3 : decode cX11_wettest 3 = .ok (.istore_n 2, 1) := by decide +kernel
theorem dX11_wettest_4 : decode cX11_wettest 4 = .ok (.iconst 0, 1) := by decide +kernel
theorem dX11_wettest_5 : decode cX11_wettest 5 = .ok (.istore_n 3, 1) := by decide +kernel
theorem dX11_wettest_6 : decode cX11_wettest 6 = .ok (.iload_n 3, 1) := by decide +kernel
theorem dX11_wettest_7 : decode cX11_wettest 7 = .ok (.aload_n 0, 1) := by decide +kernel
theorem dX11_wettest_8 : decode cX11_wettest 8 = .ok (.getfield 86, 3) := by decide +kernel
theorem dX11_wettest_11 : decode cX11_wettest 11 = .ok (.bipush 84, 2) := by decide +kernel
theorem dX11_wettest_13 : decode cX11_wettest 13 = .ok (.iaload, 1) := by decide +kernel
theorem dX11_wettest_14 : decode cX11_wettest 14 = .ok (.if_icmp .ge 34, 3) := by decide +kernel
theorem dX11_wettest_17 : decode cX11_wettest 17 = .ok (.aload_n 0, 1) := by decide +kernel
theorem dX11_wettest_18 : decode cX11_wettest 18 = .ok (.getfield 86, 3) := by decide +kernel
theorem dX11_wettest_21 : decode cX11_wettest 21 = .ok (.bipush 10, 2) := by decide +kernel
theorem dX11_wettest_23 : decode cX11_wettest 23 = .ok (.iload_n 3, 1) := by decide +kernel
theorem dX11_wettest_24 : decode cX11_wettest 24 = .ok (.iadd, 1) := by decide +kernel
theorem dX11_wettest_25 : decode cX11_wettest 25 = .ok (.iaload, 1) := by decide +kernel
theorem dX11_wettest_26 : decode cX11_wettest 26 = .ok (.iload_n 2, 1) := by decide +kernel
theorem dX11_wettest_27 : decode cX11_wettest 27 = .ok (.if_icmp .le 15, 3) := by decide +kernel
theorem dX11_wettest_30 : decode cX11_wettest 30 = .ok (.aload_n 0, 1) := by decide +kernel
theorem dX11_wettest_31 : decode cX11_wettest 31 = .ok (.getfield 86, 3) := by decide +kernel
theorem dX11_wettest_34 : decode cX11_wettest 34 = .ok (.bipush 10, 2) := by decide +kernel
theorem dX11_wettest_36 : decode cX11_wettest 36 = .ok (.iload_n 3, 1) := by decide +kernel
theorem dX11_wettest_37 : decode cX11_wettest 37 = .ok (.iadd, 1) := by decide +kernel
theorem dX11_wettest_38 : decode cX11_wettest 38 = .ok (.iaload, 1) := by decide +kernel
theorem dX11_wettest_39 : decode cX11_wettest 39 = .ok (.istore_n 2, 1) := by decide +kernel
theorem dX11_wettest_40 : decode cX11_wettest 40 = .ok (.iload_n 3, 1) := by decide +kernel
theorem dX11_wettest_41 : decode cX11_wettest 41 = .ok (.istore_n 1, 1) := by decide +kernel
theorem dX11_wettest_42 : decode cX11_wettest 42 = .ok (.iinc 3 1, 3) := by decide +kernel
theorem dX11_wettest_45 : decode cX11_wettest 45 = .ok (.goto (-39), 3) := by decide +kernel
theorem dX11_wettest_48 : decode cX11_wettest 48 = .ok (.iload_n 1, 1) := by decide +kernel
theorem dX11_wettest_49 : decode cX11_wettest 49 = .ok (.ireturn, 1) := by decide +kernel
theorem dX11_near_0 : decode cX11_near 0 = .ok (.aload_n 0, 1) := by decide +kernel
theorem dX11_near_1 : decode cX11_near 1 = .ok (.getfield 76, 3) := by decide +kernel
theorem dX11_near_4 : decode cX11_near 4 = .ok (.invokevirtual 214, 3) := by decide +kernel
theorem dX11_near_7 : decode cX11_near 7 = .ok (.istore_n 2, 1) := by decide +kernel
theorem dX11_near_8 : decode cX11_near 8 = .ok (.iconst (-1), 1) := by decide +kernel
theorem dX11_near_9 : decode cX11_near 9 = .ok (.istore_n 3, 1) := by decide +kernel
theorem dX11_near_10 : decode cX11_near 10 = .ok (.bipush 30, 2) := by decide +kernel
theorem dX11_near_12 : decode cX11_near 12 = .ok (.istore 4, 2) := by decide +kernel
theorem dX11_near_14 : decode cX11_near 14 = .ok (.iconst 0, 1) := by decide +kernel
theorem dX11_near_15 : decode cX11_near 15 = .ok (.istore 5, 2) := by decide +kernel
theorem dX11_near_17 : decode cX11_near 17 = .ok (.iload 5, 2) := by decide +kernel
theorem dX11_near_19 : decode cX11_near 19 = .ok (.aload_n 0, 1) := by decide +kernel
theorem dX11_near_20 : decode cX11_near 20 = .ok (.getfield 86, 3) := by decide +kernel
theorem dX11_near_23 : decode cX11_near 23 = .ok (.bipush 84, 2) := by decide +kernel
theorem dX11_near_25 : decode cX11_near 25 = .ok (.iaload, 1) := by decide +kernel
theorem dX11_near_26 : decode cX11_near 26 = .ok (.if_icmp .ge 45, 3) := by decide +kernel
theorem dX11_near_29 : decode cX11_near 29 = .ok (.aload_n 0, 1) := by decide +kernel
theorem dX11_near_30 : decode cX11_near 30 = .ok (.getfield 86, 3) := by decide +kernel
theorem dX11_near_33 : decode cX11_near 33 = .ok (.iconst 0, 1) := by decide +kernel
theorem dX11_near_34 : decode cX11_near 34 = .ok (.iload 5, 2) := by decide +kernel
theorem dX11_near_36 : decode cX11_near 36 = .ok (.iadd, 1) := by decide +kernel
theorem dX11_near_37 : decode cX11_near 37 = .ok (.iaload, 1) := by decide +kernel
theorem dX11_near_38 : decode cX11_near 38 = .ok (.iload_n 1, 1) := by decide +kernel
theorem dX11_near_39 : decode cX11_near 39 = .ok (.iload_n 2, 1) := by decide +kernel
theorem dX11_near_40 : decode cX11_near 40 = .ok (.invokestatic 217, 3) := by decide +kernel
theorem dX11_near_43 : decode cX11_near 43 = .ok (.istore 6, 2) := by decide +kernel
theorem dX11_near_45 : decode cX11_near 45 = .ok (.iload 6, 2) := by decide +kernel
theorem dX11_near_47 : decode cX11_near 47 = .ok (.iconst (-1), 1) := by decide +kernel
theorem dX11_near_48 : decode cX11_near 48 = .ok (.if_icmp .eq 17, 3) := by decide +kernel
theorem dX11_near_51 : decode cX11_near 51 = .ok (.iload 6, 2) := by decide +kernel
theorem dX11_near_53 : decode cX11_near 53 = .ok (.iload 4, 2) := by decide +kernel
theorem dX11_near_55 : decode cX11_near 55 = .ok (.if_icmp .ge 10, 3) := by decide +kernel
theorem dX11_near_58 : decode cX11_near 58 = .ok (.iload 6, 2) := by decide +kernel
theorem dX11_near_60 : decode cX11_near 60 = .ok (.istore 4, 2) := by decide +kernel
theorem dX11_near_62 : decode cX11_near 62 = .ok (.iload 5, 2) := by decide +kernel
theorem dX11_near_64 : decode cX11_near 64 = .ok (.istore_n 3, 1) := by decide +kernel
theorem dX11_near_65 : decode cX11_near 65 = .ok (.iinc 5 1, 3) := by decide +kernel
theorem dX11_near_68 : decode cX11_near 68 = .ok (.goto (-51), 3) := by decide +kernel
theorem dX11_near_71 : decode cX11_near 71 = .ok (.iload_n 3, 1) := by decide +kernel
theorem dX11_near_72 : decode cX11_near 72 = .ok (.ireturn, 1) := by decide +kernel
theorem dX11_ledger_0 : decode cX11_ledger 0 = .ok (.iload_n 1, 1) := by decide +kernel
theorem dX11_ledger_1 : decode cX11_ledger 1 = .ok (.iconst (-1), 1) := by decide +kernel
theorem dX11_ledger_2 : decode cX11_ledger 2 = .ok (.if_icmp .eq 14, 3) := by decide +kernel
theorem dX11_ledger_5 : decode cX11_ledger 5 = .ok (.aload_n 0, 1) := by decide +kernel
theorem dX11_ledger_6 : decode cX11_ledger 6 = .ok (.iload_n 1, 1) := by decide +kernel
theorem dX11_ledger_7 : decode cX11_ledger 7 = .ok (.invokevirtual 125, 3) := by decide +kernel
theorem dX11_ledger_10 : decode cX11_ledger 10 = .ok (.ifCond .ne 6, 3) := by decide +kernel
theorem dX11_ledger_13 : decode cX11_ledger 13 = .ok (.bipush (-2), 2) := by decide +kernel
theorem dX11_ledger_15 : decode cX11_ledger 15 = .ok (.ireturn, 1) := by decide +kernel
theorem dX11_ledger_16 : decode cX11_ledger 16 = .ok (.iconst 0, 1) := by decide +kernel
theorem dX11_ledger_17 : decode cX11_ledger 17 = .ok (.istore_n 2, 1) := by decide +kernel
theorem dX11_ledger_18 : decode cX11_ledger 18 = .ok (.iconst 0, 1) := by decide +kernel
theorem dX11_ledger_19 : decode cX11_ledger 19 = .ok (.istore_n 3, 1) := by decide +kernel
theorem dX11_ledger_20 : decode cX11_ledger 20 = .ok (.iload_n 3, 1) := by decide +kernel
theorem dX11_ledger_21 : decode cX11_ledger 21 = .ok (.aload_n 0, 1) := by decide +kernel
theorem dX11_ledger_22 : decode cX11_ledger 22 = .ok (.getfield 86, 3) := by decide +kernel
theorem dX11_ledger_25 : decode cX11_ledger 25 = .ok (.bipush 53, 2) := by decide +kernel
theorem dX11_ledger_27 : decode cX11_ledger 27 = .ok (.iaload, 1) := by decide +kernel
theorem dX11_ledger_28 : decode cX11_ledger 28 = .ok (.if_icmp .ge 42, 3) := by decide +kernel
theorem dX11_ledger_31 : decode cX11_ledger 31 = .ok (.aload_n 0, 1) := by decide +kernel
theorem dX11_ledger_32 : decode cX11_ledger 32 = .ok (.getfield 86, 3) := by decide +kernel
theorem dX11_ledger_35 : decode cX11_ledger 35 = .ok (.bipush 54, 2) := by decide +kernel
theorem dX11_ledger_37 : decode cX11_ledger 37 = .ok (.iload_n 3, 1) := by decide +kernel
theorem dX11_ledger_38 : decode cX11_ledger 38 = .ok (.iadd, 1) := by decide +kernel
theorem dX11_ledger_39 : decode cX11_ledger 39 = .ok (.iaload, 1) := by decide +kernel
theorem dX11_ledger_40 : decode cX11_ledger 40 = .ok (.istore 4, 2) := by decide +kernel
theorem dX11_ledger_42 : decode cX11_ledger 42 = .ok (.iload_n 1, 1) := by decide +kernel
theorem dX11_ledger_43 : decode cX11_ledger 43 = .ok (.iconst (-1), 1) := by decide +kernel
theorem dX11_ledger_44 : decode cX11_ledger 44 = .ok (.if_icmp .eq 12, 3) := by decide +kernel
theorem dX11_ledger_47 : decode cX11_ledger 47 = .ok (.iload 4, 2) := by decide +kernel
theorem dX11_ledger_49 : decode cX11_ledger 49 = .ok (.invokestatic 205, 3) := by decide +kernel
theorem dX11_ledger_52 : decode cX11_ledger 52 = .ok (.iload_n 1, 1) := by decide +kernel
theorem dX11_ledger_53 : decode cX11_ledger 53 = .ok (.if_icmp .ne 11, 3) := by decide +kernel
theorem dX11_ledger_56 : decode cX11_ledger 56 = .ok (.iload_n 2, 1) := by decide +kernel
theorem dX11_ledger_57 : decode cX11_ledger 57 = .ok (.iload 4, 2) := by decide +kernel
theorem dX11_ledger_59 : decode cX11_ledger 59 = .ok (.invokestatic 211, 3) := by decide +kernel
theorem dX11_ledger_62 : decode cX11_ledger 62 = .ok (.iadd, 1) := by decide +kernel
theorem dX11_ledger_63 : decode cX11_ledger 63 = .ok (.istore_n 2, 1) := by decide +kernel
theorem dX11_ledger_64 : decode cX11_ledger 64 = .ok (.iinc 3 1, 3) := by decide +kernel
theorem dX11_ledger_67 : decode cX11_ledger 67 = .ok (.goto (-47), 3) := by decide +kernel
theorem dX11_ledger_70 : decode cX11_ledger 70 = .ok (.iload_n 2, 1) := by decide +kernel
theorem dX11_ledger_71 : decode cX11_ledger 71 = .ok (.ireturn, 1) := by decide +kernel
theorem dX11_image_0 : decode cX11_image 0 = .ok (.aload_n 0, 1) := by decide +kernel
theorem dX11_image_1 : decode cX11_image 1 = .ok (.getfield 86, 3) := by decide +kernel
theorem dX11_image_4 : decode cX11_image 4 = .ok (.iconst 0, 1) := by decide +kernel
theorem dX11_image_5 : decode cX11_image 5 = .ok (.aload_n 0, 1) := by decide +kernel
theorem dX11_image_6 : decode cX11_image 6 = .ok (.getfield 9, 3) := by decide +kernel
theorem dX11_image_9 : decode cX11_image 9 = .ok (.iconst 0, 1) := by decide +kernel
theorem dX11_image_10 : decode cX11_image 10 = .ok (.sipush 2735, 3) := by decide +kernel
theorem dX11_image_13 : decode cX11_image 13 = .ok (.invokestatic 87, 3) := by decide +kernel
theorem dX11_image_16 : decode cX11_image 16 = .ok (.aload_n 0, 1) := by decide +kernel
theorem dX11_image_17 : decode cX11_image 17 = .ok (.getfield 86, 3) := by decide +kernel
theorem dX11_image_20 : decode cX11_image 20 = .ok (.bipush 51, 2) := by decide +kernel
theorem dX11_image_22 : decode cX11_image 22 = .ok (.iaload, 1) := by decide +kernel
theorem dX11_image_23 : decode cX11_image 23 = .ok (.ireturn, 1) := by decide +kernel
theorem dX11_back_0 : decode cX11_back 0 = .ok (.aload_n 0, 1) := by decide +kernel
theorem dX11_back_1 : decode cX11_back 1 = .ok (.getfield 9, 3) := by decide +kernel
theorem dX11_back_4 : decode cX11_back 4 = .ok (.iconst 0, 1) := by decide +kernel
theorem dX11_back_5 : decode cX11_back 5 = .ok (.aload_n 0, 1) := by decide +kernel
theorem dX11_back_6 : decode cX11_back 6 = .ok (.getfield 86, 3) := by decide +kernel
theorem dX11_back_9 : decode cX11_back 9 = .ok (.iconst 0, 1) := by decide +kernel
theorem dX11_back_10 : decode cX11_back 10 = .ok (.sipush 2735, 3) := by decide +kernel
theorem dX11_back_13 : decode cX11_back 13 = .ok (.invokestatic 87, 3) := by decide +kernel
theorem dX11_back_16 : decode cX11_back 16 = .ok (.aload_n 0, 1) := by decide +kernel
theorem dX11_back_17 : decode cX11_back 17 = .ok (.getfield 86, 3) := by decide +kernel
theorem dX11_back_20 : decode cX11_back 20 = .ok (.bipush 51, 2) := by decide +kernel
theorem dX11_back_22 : decode cX11_back 22 = .ok (.iaload, 1) := by decide +kernel
theorem dX11_back_23 : decode cX11_back 23 = .ok (.ireturn, 1) := by decide +kernel
theorem dX11_about_0 : decode cX11_about 0 = .ok (.iload_n 1, 1) := by decide +kernel
theorem dX11_about_1 : decode cX11_about 1 = .ok (.tableswitch 99 0 6 #[43, 51, 59, 67, 76, 85, 94], 43) := by decide +kernel
theorem dX11_about_44 : decode cX11_about 44 = .ok (.aload_n 0, 1) := by decide +kernel
theorem dX11_about_45 : decode cX11_about 45 = .ok (.getfield 86, 3) := by decide +kernel
theorem dX11_about_48 : decode cX11_about 48 = .ok (.bipush 84, 2) := by decide +kernel
theorem dX11_about_50 : decode cX11_about 50 = .ok (.iaload, 1) := by decide +kernel
theorem dX11_about_51 : decode cX11_about 51 = .ok (.ireturn, 1) := by decide +kernel
theorem dX11_about_52 : decode cX11_about 52 = .ok (.aload_n 0, 1) := by decide +kernel
theorem dX11_about_53 : decode cX11_about 53 = .ok (.getfield 86, 3) := by decide +kernel
theorem dX11_about_56 : decode cX11_about 56 = .ok (.bipush 117, 2) := by decide +kernel
theorem dX11_about_58 : decode cX11_about 58 = .ok (.iaload, 1) := by decide +kernel
theorem dX11_about_59 : decode cX11_about 59 = .ok (.ireturn, 1) := by decide +kernel
theorem dX11_about_60 : decode cX11_about 60 = .ok (.aload_n 0, 1) := by decide +kernel
theorem dX11_about_61 : decode cX11_about 61 = .ok (.getfield 86, 3) := by decide +kernel
theorem dX11_about_64 : decode cX11_about 64 = .ok (.bipush 116, 2) := by decide +kernel
theorem dX11_about_66 : decode cX11_about 66 = .ok (.iaload, 1) := by decide +kernel
theorem dX11_about_67 : decode cX11_about 67 = .ok (.ireturn, 1) := by decide +kernel
theorem dX11_about_68 : decode cX11_about 68 = .ok (.aload_n 0, 1) := by decide +kernel
theorem dX11_about_69 : decode cX11_about 69 = .ok (.getfield 86, 3) := by decide +kernel
theorem dX11_about_72 : decode cX11_about 72 = .ok (.sipush 183, 3) := by decide +kernel
theorem dX11_about_75 : decode cX11_about 75 = .ok (.iaload, 1) := by decide +kernel
theorem dX11_about_76 : decode cX11_about 76 = .ok (.ireturn, 1) := by decide +kernel
theorem dX11_about_77 : decode cX11_about 77 = .ok (.aload_n 0, 1) := by decide +kernel
theorem dX11_about_78 : decode cX11_about 78 = .ok (.getfield 86, 3) := by decide +kernel
theorem dX11_about_81 : decode cX11_about 81 = .ok (.sipush 153, 3) := by decide +kernel
theorem dX11_about_84 : decode cX11_about 84 = .ok (.iaload, 1) := by decide +kernel
theorem dX11_about_85 : decode cX11_about 85 = .ok (.ireturn, 1) := by decide +kernel
theorem dX11_about_86 : decode cX11_about 86 = .ok (.aload_n 0, 1) := by decide +kernel
theorem dX11_about_87 : decode cX11_about 87 = .ok (.getfield 86, 3) := by decide +kernel
theorem dX11_about_90 : decode cX11_about 90 = .ok (.sipush 166, 3) := by decide +kernel
theorem dX11_about_93 : decode cX11_about 93 = .ok (.iaload, 1) := by decide +kernel
theorem dX11_about_94 : decode cX11_about 94 = .ok (.ireturn, 1) := by decide +kernel
theorem dX11_about_95 : decode cX11_about 95 = .ok (.aload_n 0, 1) := by decide +kernel
theorem dX11_about_96 : decode cX11_about 96 = .ok (.getfield 16, 3) := by decide +kernel
theorem dX11_about_99 : decode cX11_about 99 = .ok (.ireturn, 1) := by decide +kernel
theorem dX11_about_100 : decode cX11_about 100 = .ok (.bipush (-2), 2) := by decide +kernel
theorem dX11_about_102 : decode cX11_about 102 = .ok (.ireturn, 1) := by decide +kernel
theorem dX11_isWithin_0 : decode cX11_isWithin 0 = .ok (.iload_n 0, 1) := by decide +kernel
theorem dX11_isWithin_1 : decode cX11_isWithin 1 = .ok (.iload_n 1, 1) := by decide +kernel
theorem dX11_isWithin_2 : decode cX11_isWithin 2 = .ok (.if_icmp .lt 12, 3) := by decide +kernel
theorem dX11_isWithin_5 : decode cX11_isWithin 5 = .ok (.iload_n 0, 1) := by decide +kernel
theorem dX11_isWithin_6 : decode cX11_isWithin 6 = .ok (.iload_n 2, 1) := by decide +kernel
theorem dX11_isWithin_7 : decode cX11_isWithin 7 = .ok (.if_icmp .gt 7, 3) := by decide +kernel
theorem dX11_isWithin_10 : decode cX11_isWithin 10 = .ok (.iconst 1, 1) := by decide +kernel
theorem dX11_isWithin_11 : decode cX11_isWithin 11 = .ok (.goto 4, 3) := by decide +kernel
theorem dX11_isWithin_14 : decode cX11_isWithin 14 = .ok (.iconst 0, 1) := by decide +kernel
theorem dX11_isWithin_15 : decode cX11_isWithin 15 = .ok (.ireturn, 1) := by decide +kernel
theorem dX11_isCell_0 : decode cX11_isCell 0 = .ok (.iload_n 0, 1) := by decide +kernel
theorem dX11_isCell_1 : decode cX11_isCell 1 = .ok (.ifCond .lt 13, 3) := by decide +kernel
theorem dX11_isCell_4 : decode cX11_isCell 4 = .ok (.iload_n 0, 1) := by decide +kernel
theorem dX11_isCell_5 : decode cX11_isCell 5 = .ok (.bipush 30, 2) := by decide +kernel
theorem dX11_isCell_7 : decode cX11_isCell 7 = .ok (.if_icmp .ge 7, 3) := by decide +kernel
theorem dX11_isCell_10 : decode cX11_isCell 10 = .ok (.iconst 1, 1) := by decide +kernel
theorem dX11_isCell_11 : decode cX11_isCell 11 = .ok (.goto 4, 3) := by decide +kernel
theorem dX11_isCell_14 : decode cX11_isCell 14 = .ok (.iconst 0, 1) := by decide +kernel
theorem dX11_isCell_15 : decode cX11_isCell 15 = .ok (.ireturn, 1) := by decide +kernel
theorem dX11_isDay_0 : decode cX11_isDay 0 = .ok (.iload_n 0, 1) := by decide +kernel
theorem dX11_isDay_1 : decode cX11_isDay 1 = .ok (.ifCond .lt 13, 3) := by decide +kernel
theorem dX11_isDay_4 : decode cX11_isDay 4 = .ok (.iload_n 0, 1) := by decide +kernel
theorem dX11_isDay_5 : decode cX11_isDay 5 = .ok (.bipush 7, 2) := by decide +kernel
theorem dX11_isDay_7 : decode cX11_isDay 7 = .ok (.if_icmp .ge 7, 3) := by decide +kernel
theorem dX11_isDay_10 : decode cX11_isDay 10 = .ok (.iconst 1, 1) := by decide +kernel
theorem dX11_isDay_11 : decode cX11_isDay 11 = .ok (.goto 4, 3) := by decide +kernel
theorem dX11_isDay_14 : decode cX11_isDay 14 = .ok (.iconst 0, 1) := by decide +kernel
theorem dX11_isDay_15 : decode cX11_isDay 15 = .ok (.ireturn, 1) := by decide +kernel
theorem dX11_isPerson_0 : decode cX11_isPerson 0 = .ok (.iload_n 1, 1) := by decide +kernel
theorem dX11_isPerson_1 : decode cX11_isPerson 1 = .ok (.ifCond .lt 18, 3) := by decide +kernel
theorem dX11_isPerson_4 : decode cX11_isPerson 4 = .ok (.iload_n 1, 1) := by decide +kernel
theorem dX11_isPerson_5 : decode cX11_isPerson 5 = .ok (.aload_n 0, 1) := by decide +kernel
theorem dX11_isPerson_6 : decode cX11_isPerson 6 = .ok (.getfield 86, 3) := by decide +kernel
theorem dX11_isPerson_9 : decode cX11_isPerson 9 = .ok (.bipush 84, 2) := by decide +kernel
theorem dX11_isPerson_11 : decode cX11_isPerson 11 = .ok (.iaload, 1) := by decide +kernel
theorem dX11_isPerson_12 : decode cX11_isPerson 12 = .ok (.if_icmp .ge 7, 3) := by decide +kernel
theorem dX11_isPerson_15 : decode cX11_isPerson 15 = .ok (.iconst 1, 1) := by decide +kernel
theorem dX11_isPerson_16 : decode cX11_isPerson 16 = .ok (.goto 4, 3) := by decide +kernel
theorem dX11_isPerson_19 : decode cX11_isPerson 19 = .ok (.iconst 0, 1) := by decide +kernel
theorem dX11_isPerson_20 : decode cX11_isPerson 20 = .ok (.ireturn, 1) := by decide +kernel
theorem dX11_isText_0 : decode cX11_isText 0 = .ok (.iload_n 1, 1) := by decide +kernel
theorem dX11_isText_1 : decode cX11_isText 1 = .ok (.ifCond .lt 18, 3) := by decide +kernel
theorem dX11_isText_4 : decode cX11_isText 4 = .ok (.iload_n 1, 1) := by decide +kernel
theorem dX11_isText_5 : decode cX11_isText 5 = .ok (.aload_n 0, 1) := by decide +kernel
theorem dX11_isText_6 : decode cX11_isText 6 = .ok (.getfield 86, 3) := by decide +kernel
theorem dX11_isText_9 : decode cX11_isText 9 = .ok (.bipush 117, 2) := by decide +kernel
theorem dX11_isText_11 : decode cX11_isText 11 = .ok (.iaload, 1) := by decide +kernel
theorem dX11_isText_12 : decode cX11_isText 12 = .ok (.if_icmp .ge 7, 3) := by decide +kernel
theorem dX11_isText_15 : decode cX11_isText 15 = .ok (.iconst 1, 1) := by decide +kernel
theorem dX11_isText_16 : decode cX11_isText 16 = .ok (.goto 4, 3) := by decide +kernel
theorem dX11_isText_19 : decode cX11_isText 19 = .ok (.iconst 0, 1) := by decide +kernel
theorem dX11_isText_20 : decode cX11_isText 20 = .ok (.ireturn, 1) := by decide +kernel
theorem dX12_init_0 : decode cX12_init 0 = .ok (.aload_n 0, 1) := by decide +kernel
theorem dX12_init_1 : decode cX12_init 1 = .ok (.invokespecial 1, 3) := by decide +kernel
theorem dX12_init_4 : decode cX12_init 4 = .ok (.aload_n 0, 1) := by decide +kernel
theorem dX12_init_5 : decode cX12_init 5 = .ok (.sipush 3703, 3) := by decide +kernel
theorem dX12_init_8 : decode cX12_init 8 = .ok (.newarray .int, 2) := by decide +kernel
theorem dX12_init_10 : decode cX12_init 10 = .ok (.putfield 7, 3) := by decide +kernel
theorem dX12_init_13 : decode cX12_init 13 = .ok (.aload_n 0, 1) := by decide +kernel
theorem dX12_init_14 : decode cX12_init 14 = .ok (.sipush 3703, 3) := by decide +kernel
theorem dX12_init_17 : decode cX12_init 17 = .ok (.newarray .int, 2) := by decide +kernel
theorem dX12_init_19 : decode cX12_init 19 = .ok (.putfield 13, 3) := by decide +kernel
theorem dX12_init_22 : decode cX12_init 22 = .ok (.aload_n 0, 1) := by decide +kernel
theorem dX12_init_23 : decode cX12_init 23 = .ok (.sipush 2724, 3) := by decide +kernel
theorem dX12_init_26 : decode cX12_init 26 = .ok (.newarray .int, 2) := by decide +kernel
theorem dX12_init_28 : decode cX12_init 28 = .ok (.putfield 16, 3) := by decide +kernel
theorem dX12_init_31 : decode cX12_init 31 = .ok (.aload_n 0, 1) := by decide +kernel
theorem dX12_init_32 : decode cX12_init 32 = .ok (.sipush 300, 3) := by decide +kernel
theorem dX12_init_35 : decode cX12_init 35 = .ok (.newarray .int, 2) := by decide +kernel
theorem dX12_init_37 : decode cX12_init 37 = .ok (.putfield 19, 3) := by decide +kernel
theorem dX12_init_40 : decode cX12_init 40 = .ok (.aload_n 0, 1) := by decide +kernel
theorem dX12_init_41 : decode cX12_init 41 = .ok (.iconst (-1), 1) := by decide +kernel
theorem dX12_init_42 : decode cX12_init 42 = .ok (.putfield 22, 3) := by decide +kernel
theorem dX12_init_45 : decode cX12_init 45 = .ok (.aload_n 0, 1) := by decide +kernel
theorem dX12_init_46 : decode cX12_init 46 = .ok (.iconst (-1), 1) := by decide +kernel
theorem dX12_init_47 : decode cX12_init 47 = .ok (.putfield 26, 3) := by decide +kernel
theorem dX12_init_50 : decode cX12_init 50 = .ok (.aload_n 0, 1) := by decide +kernel
theorem dX12_init_51 : decode cX12_init 51 = .ok (.sipush 160, 3) := by decide +kernel
theorem dX12_init_54 : decode cX12_init 54 = .ok (.newarray .int, 2) := by decide +kernel
theorem dX12_init_56 : decode cX12_init 56 = .ok (.putfield 29, 3) := by decide +kernel
theorem dX12_init_59 : decode cX12_init 59 = .ok (.aload_n 0, 1) := by decide +kernel
theorem dX12_init_60 : decode cX12_init 60 = .ok (.bipush 8, 2) := by decide +kernel
theorem dX12_init_62 : decode cX12_init 62 = .ok (.newarray .int, 2) := by decide +kernel
theorem dX12_init_64 : decode cX12_init 64 = .ok (.putfield 32, 3) := by decide +kernel
theorem dX12_init_67 : decode cX12_init 67 = .ok (.aload_n 0, 1) := by decide +kernel
theorem dX12_init_68 : decode cX12_init 68 = .ok (.sipush 330, 3) := by decide +kernel
theorem dX12_init_71 : decode cX12_init 71 = .ok (.newarray .long, 2) := by decide +kernel
theorem dX12_init_73 : decode cX12_init 73 = .ok (.putfield 35, 3) := by decide +kernel
theorem dX12_init_76 : decode cX12_init 76 = .ok (.aload_n 0, 1) := by decide +kernel
theorem dX12_init_77 : decode cX12_init 77 = .ok (.sipush 330, 3) := by decide +kernel
theorem dX12_init_80 : decode cX12_init 80 = .ok (.newarray .boolean, 2) := by decide +kernel
theorem dX12_init_82 : decode cX12_init 82 = .ok (.putfield 39, 3) := by decide +kernel
theorem dX12_init_85 : decode cX12_init 85 = .ok (.aload_n 0, 1) := by decide +kernel
theorem dX12_init_86 : decode cX12_init 86 = .ok (.bipush 30, 2) := by decide +kernel
theorem dX12_init_88 : decode cX12_init 88 = .ok (.newarray .int, 2) := by decide +kernel
theorem dX12_init_90 : decode cX12_init 90 = .ok (.putfield 43, 3) := by decide +kernel
theorem dX12_init_93 : decode cX12_init 93 = .ok (.aload_n 0, 1) := by decide +kernel
theorem dX12_init_94 : decode cX12_init 94 = .ok (.iconst 1, 1) := by decide +kernel
theorem dX12_init_95 : decode cX12_init 95 = .ok (.putfield 46, 3) := by decide +kernel
theorem dX12_init_98 : decode cX12_init 98 = .ok (.aload_n 0, 1) := by decide +kernel
theorem dX12_init_99 : decode cX12_init 99 = .ok (.bipush 70, 2) := by decide +kernel
theorem dX12_init_101 : decode cX12_init 101 = .ok (.newarray .int, 2) := by decide +kernel
theorem dX12_init_103 : decode cX12_init 103 = .ok (.putfield 50, 3) := by decide +kernel
theorem dX12_init_106 : decode cX12_init 106 = .ok (.aload_n 0, 1) := by decide +kernel
theorem dX12_init_107 : decode cX12_init 107 = .ok (.sipush 900, 3) := by decide +kernel
theorem dX12_init_110 : decode cX12_init 110 = .ok (.newarray .int, 2) := by decide +kernel
theorem dX12_init_112 : decode cX12_init 112 = .ok (.putfield 53, 3) := by decide +kernel
theorem dX12_init_115 : decode cX12_init 115 = .ok (.aload_n 0, 1) := by decide +kernel
theorem dX12_init_116 : decode cX12_init 116 = .ok (.bipush 30, 2) := by decide +kernel
theorem dX12_init_118 : decode cX12_init 118 = .ok (.newarray .int, 2) := by decide +kernel
theorem dX12_init_120 : decode cX12_init 120 = .ok (.putfield 56, 3) := by decide +kernel
theorem dX12_init_123 : decode cX12_init 123 = .ok (.aload_n 0, 1) := by decide +kernel
theorem dX12_init_124 : decode cX12_init 124 = .ok (.iconst 5, 1) := by decide +kernel
theorem dX12_init_125 : decode cX12_init 125 = .ok (.newarray .int, 2) := by decide +kernel
theorem dX12_init_127 : decode cX12_init 127 = .ok (.putfield 59, 3) := by decide +kernel
theorem dX12_init_130 : decode cX12_init 130 = .ok (.aload_n 0, 1) := by decide +kernel
theorem dX12_init_131 : decode cX12_init 131 = .ok (.iconst 5, 1) := by decide +kernel
theorem dX12_init_132 : decode cX12_init 132 = .ok (.newarray .int, 2) := by decide +kernel
theorem dX12_init_134 : decode cX12_init 134 = .ok (.putfield 62, 3) := by decide +kernel
theorem dX12_init_137 : decode cX12_init 137 = .ok (.aload_n 0, 1) := by decide +kernel
theorem dX12_init_138 : decode cX12_init 138 = .ok (.bipush 36, 2) := by decide +kernel
theorem dX12_init_140 : decode cX12_init 140 = .ok (.newarray .int, 2) := by decide +kernel
theorem dX12_init_142 : decode cX12_init 142 = .ok (.putfield 65, 3) := by decide +kernel
theorem dX12_init_145 : decode cX12_init 145 = .ok (.aload_n 0, 1) := by decide +kernel
theorem dX12_init_146 : decode cX12_init 146 = .ok (.iconst 5, 1) := by decide +kernel
theorem dX12_init_147 : decode cX12_init 147 = .ok (.newarray .int, 2) := by decide +kernel
theorem dX12_init_149 : decode cX12_init 149 = .ok (.putfield 68, 3) := by decide +kernel
theorem dX12_init_152 : decode cX12_init 152 = .ok (.aload_n 0, 1) := by decide +kernel
theorem dX12_init_153 : decode cX12_init 153 = .ok (.bipush 7, 2) := by decide +kernel
theorem dX12_init_155 : decode cX12_init 155 = .ok (.newarray .int, 2) := by decide +kernel
theorem dX12_init_157 : decode cX12_init 157 = .ok (.putfield 71, 3) := by decide +kernel
theorem dX12_init_160 : decode cX12_init 160 = .ok (.aload_n 0, 1) := by decide +kernel
theorem dX12_init_161 : decode cX12_init 161 = .ok (.bipush 7, 2) := by decide +kernel
theorem dX12_init_163 : decode cX12_init 163 = .ok (.newarray .int, 2) := by decide +kernel
theorem dX12_init_165 : decode cX12_init 165 = .ok (.putfield 74, 3) := by decide +kernel
theorem dX12_init_168 : decode cX12_init 168 = .ok (.aload_n 0, 1) := by decide +kernel
theorem dX12_init_169 : decode cX12_init 169 = .ok (.iconst 5, 1) := by decide +kernel
theorem dX12_init_170 : decode cX12_init 170 = .ok (.newarray .int, 2) := by decide +kernel
theorem dX12_init_172 : decode cX12_init 172 = .ok (.putfield 77, 3) := by decide +kernel
theorem dX12_init_175 : decode cX12_init 175 = .ok (.aload_n 0, 1) := by decide +kernel
theorem dX12_init_176 : decode cX12_init 176 = .ok (.bipush 11, 2) := by decide +kernel
theorem dX12_init_178 : decode cX12_init 178 = .ok (.newarray .long, 2) := by decide +kernel
theorem dX12_init_180 : decode cX12_init 180 = .ok (.putfield 80, 3) := by decide +kernel
theorem dX12_init_183 : decode cX12_init 183 = .ok (.aload_n 0, 1) := by decide +kernel
theorem dX12_init_184 : decode cX12_init 184 = .ok (.getfield 7, 3) := by decide +kernel
theorem dX12_init_187 : decode cX12_init 187 = .ok (.bipush 8, 2) := by decide +kernel
theorem dX12_init_189 : decode cX12_init 189 = .ok (.sipush 241, 3) := by decide +kernel
theorem dX12_init_192 : decode cX12_init 192 = .ok (.iastore, 1) := by decide +kernel
theorem dX12_init_193 : decode cX12_init 193 = .ok (.aload_n 0, 1) := by decide +kernel
theorem dX12_init_194 : decode cX12_init 194 = .ok (.getfield 7, 3) := by decide +kernel
theorem dX12_init_197 : decode cX12_init 197 = .ok (.iconst 2, 1) := by decide +kernel
theorem dX12_init_198 : decode cX12_init 198 = .ok (.iconst (-1), 1) := by decide +kernel
theorem dX12_init_199 : decode cX12_init 199 = .ok (.iastore, 1) := by decide +kernel
theorem dX12_init_200 : decode cX12_init 200 = .ok (.iconst 0, 1) := by decide +kernel
theorem dX12_init_201 : decode cX12_init 201 = .ok (.istore_n 1, 1) := by decide +kernel
theorem dX12_init_202 : decode cX12_init 202 = .ok (.iload_n 1, 1) := by decide +kernel
theorem dX12_init_203 : decode cX12_init 203 = .ok (.bipush 35, 2) := by decide +kernel
theorem dX12_init_205 : decode cX12_init 205 = .ok (.if_icmp .ge 21, 3) := by decide +kernel
theorem dX12_init_208 : decode cX12_init 208 = .ok (.aload_n 0, 1) := by decide +kernel
theorem dX12_init_209 : decode cX12_init 209 = .ok (.getfield 7, 3) := by decide +kernel
theorem dX12_init_212 : decode cX12_init 212 = .ok (.sipush 130, 3) := by decide +kernel
theorem dX12_init_215 : decode cX12_init 215 = .ok (.iload_n 1, 1) := by decide +kernel
theorem dX12_init_216 : decode cX12_init 216 = .ok (.iadd, 1) := by decide +kernel
theorem dX12_init_217 : decode cX12_init 217 = .ok (.bipush 10, 2) := by decide +kernel
theorem dX12_init_219 : decode cX12_init 219 = .ok (.iastore, 1) := by decide +kernel
theorem dX12_init_220 : decode cX12_init 220 = .ok (.iinc 1 1, 3) := by decide +kernel
theorem dX12_init_223 : decode cX12_init 223 = .ok (.goto (-21), 3) := by decide +kernel
theorem dX12_init_226 : decode cX12_init 226 = .ok (.aload_n 0, 1) := by decide +kernel
theorem dX12_init_227 : decode cX12_init 227 = .ok (.getfield 7, 3) := by decide +kernel
theorem dX12_init_230 : decode cX12_init 230 = .ok (.aload_n 0, 1) := by decide +kernel
theorem dX12_init_231 : decode cX12_init 231 = .ok (.getfield 13, 3) := by decide +kernel
theorem dX12_init_234 : decode cX12_init 234 = .ok (.invokestatic 83, 3) := by decide +kernel
theorem dX12_init_237 : decode cX12_init 237 = .ok (.return_, 1) := by decide +kernel
theorem dX12_copy_0 : decode cX12_copy 0 = .ok (.iconst 0, 1) := by decide +kernel
theorem dX12_copy_1 : decode cX12_copy 1 = .ok (.istore_n 2, 1) := by decide +kernel
theorem dX12_copy_2 : decode cX12_copy 2 = .ok (.iload_n 2, 1) := by decide +kernel
theorem dX12_copy_3 : decode cX12_copy 3 = .ok (.sipush 3703, 3) := by decide +kernel
theorem dX12_copy_6 : decode cX12_copy 6 = .ok (.if_icmp .ge 15, 3) := by decide +kernel
theorem dX12_copy_9 : decode cX12_copy 9 = .ok (.aload_n 1, 1) := by decide +kernel
theorem dX12_copy_10 : decode cX12_copy 10 = .ok (.iload_n 2, 1) := by decide +kernel
theorem dX12_copy_11 : decode cX12_copy 11 = .ok (.aload_n 0, 1) := by decide +kernel
theorem dX12_copy_12 : decode cX12_copy 12 = .ok (.iload_n 2, 1) := by decide +kernel
theorem dX12_copy_13 : decode cX12_copy 13 = .ok (.iaload, 1) := by decide +kernel
theorem dX12_copy_14 : decode cX12_copy 14 = .ok (.iastore, 1) := by decide +kernel
theorem dX12_copy_15 : decode cX12_copy 15 = .ok (.iinc 2 1, 3) := by decide +kernel
theorem dX12_copy_18 : decode cX12_copy 18 = .ok (.goto (-16), 3) := by decide +kernel
theorem dX12_copy_21 : decode cX12_copy 21 = .ok (.return_, 1) := by decide +kernel
theorem dX12_isIn_0 : decode cX12_isIn 0 = .ok (.iload_n 0, 1) := by decide +kernel
theorem dX12_isIn_1 : decode cX12_isIn 1 = .ok (.iload_n 1, 1) := by decide +kernel
theorem dX12_isIn_2 : decode cX12_isIn 2 = .ok (.if_icmp .lt 12, 3) := by decide +kernel
theorem dX12_isIn_5 : decode cX12_isIn 5 = .ok (.iload_n 0, 1) := by decide +kernel
theorem dX12_isIn_6 : decode cX12_isIn 6 = .ok (.iload_n 2, 1) := by decide +kernel
theorem dX12_isIn_7 : decode cX12_isIn 7 = .ok (.if_icmp .gt 7, 3) := by decide +kernel
theorem dX12_isIn_10 : decode cX12_isIn 10 = .ok (.iconst 1, 1) := by decide +kernel
theorem dX12_isIn_11 : decode cX12_isIn 11 = .ok (.goto 4, 3) := by decide +kernel
theorem dX12_isIn_14 : decode cX12_isIn 14 = .ok (.iconst 0, 1) := by decide +kernel
theorem dX12_isIn_15 : decode cX12_isIn 15 = .ok (.ireturn, 1) := by decide +kernel
theorem dX12_held_0 : decode cX12_held 0 = .ok (.lload_n 0, 1) := by decide +kernel
theorem dX12_held_1 : decode cX12_held 1 = .ok (.iload_n 2, 1) := by decide +kernel
theorem dX12_held_2 : decode cX12_held 2 = .ok (.i2l, 1) := by decide +kernel
theorem dX12_held_3 : decode cX12_held 3 = .ok (.lcmp, 1) := by decide +kernel
theorem dX12_held_4 : decode cX12_held 4 = .ok (.ifCond .ge 7, 3) := by decide +kernel
theorem dX12_held_7 : decode cX12_held 7 = .ok (.iload_n 2, 1) := by decide +kernel
theorem dX12_held_8 : decode cX12_held 8 = .ok (.goto 16, 3) := by decide +kernel
theorem dX12_held_11 : decode cX12_held 11 = .ok (.lload_n 0, 1) := by decide +kernel
theorem dX12_held_12 : decode cX12_held 12 = .ok (.iload_n 3, 1) := by decide +kernel
theorem dX12_held_13 : decode cX12_held 13 = .ok (.i2l, 1) := by decide +kernel
theorem dX12_held_14 : decode cX12_held 14 = .ok (.lcmp, 1) := by decide +kernel
theorem dX12_held_15 : decode cX12_held 15 = .ok (.ifCond .le 7, 3) := by decide +kernel
theorem dX12_held_18 : decode cX12_held 18 = .ok (.iload_n 3, 1) := by decide +kernel
theorem dX12_held_19 : decode cX12_held 19 = .ok (.goto 5, 3) := by decide +kernel
theorem dX12_held_22 : decode cX12_held 22 = .ok (.lload_n 0, 1) := by decide +kernel
theorem dX12_held_23 : decode cX12_held 23 = .ok (.l2i, 1) := by decide +kernel
theorem dX12_held_24 : decode cX12_held 24 = .ok (.ireturn, 1) := by decide +kernel
theorem dX12_has_0 : decode cX12_has 0 = .ok (.iload_n 0, 1) := by decide +kernel
theorem dX12_has_1 : decode cX12_has 1 = .ok (.iload_n 1, 1) := by decide +kernel
theorem dX12_has_2 : decode cX12_has 2 = .ok (.ishr, 1) := by decide +kernel
theorem dX12_has_3 : decode cX12_has 3 = .ok (.iconst 1, 1) := by decide +kernel
theorem dX12_has_4 : decode cX12_has 4 = .ok (.iand, 1) := by decide +kernel
theorem dX12_has_5 : decode cX12_has 5 = .ok (.iconst 1, 1) := by decide +kernel
theorem dX12_has_6 : decode cX12_has 6 = .ok (.if_icmp .ne 7, 3) := by decide +kernel
theorem dX12_has_9 : decode cX12_has 9 = .ok (.iconst 1, 1) := by decide +kernel
theorem dX12_has_10 : decode cX12_has 10 = .ok (.goto 4, 3) := by decide +kernel
theorem dX12_has_13 : decode cX12_has 13 = .ok (.iconst 0, 1) := by decide +kernel
theorem dX12_has_14 : decode cX12_has 14 = .ok (.ireturn, 1) := by decide +kernel
theorem dX12_bits_0 : decode cX12_bits 0 = .ok (.iconst 0, 1) := by decide +kernel
theorem dX12_bits_1 : decode cX12_bits 1 = .ok (.istore_n 1, 1) := by decide +kernel
theorem dX12_bits_2 : decode cX12_bits 2 = .ok (.iload_n 0, 1) := by decide +kernel
theorem dX12_bits_3 : decode cX12_bits 3 = .ok (.istore_n 2, 1) := by decide +kernel
theorem dX12_bits_4 : decode cX12_bits 4 = .ok (.iload_n 2, 1) := by decide +kernel
theorem dX12_bits_5 : decode cX12_bits 5 = .ok (.ifCond .eq 15, 3) := by decide +kernel
theorem dX12_bits_8 : decode cX12_bits 8 = .ok (.iinc 1 1, 3) := by decide +kernel
theorem dX12_bits_11 : decode cX12_bits 11 = .ok (.iload_n 2, 1) := by decide +kernel
theorem dX12_bits_12 : decode cX12_bits 12 = .ok (.iload_n 2, 1) := by decide +kernel
theorem dX12_bits_13 : decode cX12_bits 13 = .ok (.iconst 1, 1) := by decide +kernel
theorem dX12_bits_14 : decode cX12_bits 14 = .ok (.isub, 1) := by decide +kernel
theorem dX12_bits_15 : decode cX12_bits 15 = .ok (.iand, 1) := by decide +kernel
theorem dX12_bits_16 : decode cX12_bits 16 = .ok (.istore_n 2, 1) := by decide +kernel
theorem dX12_bits_17 : decode cX12_bits 17 = .ok (.goto (-13), 3) := by decide +kernel
theorem dX12_bits_20 : decode cX12_bits 20 = .ok (.iload_n 1, 1) := by decide +kernel
theorem dX12_bits_21 : decode cX12_bits 21 = .ok (.ireturn, 1) := by decide +kernel
theorem dX12_isCell_0 : decode cX12_isCell 0 = .ok (.iload_n 0, 1) := by decide +kernel
theorem dX12_isCell_1 : decode cX12_isCell 1 = .ok (.iconst 0, 1) := by decide +kernel
theorem dX12_isCell_2 : decode cX12_isCell 2 = .ok (.bipush 29, 2) := by decide +kernel
theorem dX12_isCell_4 : decode cX12_isCell 4 = .ok (.invokestatic 87, 3) := by decide +kernel
theorem dX12_isCell_7 : decode cX12_isCell 7 = .ok (.ireturn, 1) := by decide +kernel
theorem dX12_isFree_0 : decode cX12_isFree 0 = .ok (.iload_n 1, 1) := by decide +kernel
theorem dX12_isFree_1 : decode cX12_isFree 1 = .ok (.invokestatic 91, 3) := by decide +kernel
theorem dX12_isFree_4 : decode cX12_isFree 4 = .ok (.ifCond .eq 19, 3) := by decide +kernel
theorem dX12_isFree_7 : decode cX12_isFree 7 = .ok (.aload_n 0, 1) := by decide +kernel
theorem dX12_isFree_8 : decode cX12_isFree 8 = .ok (.getfield 7, 3) := by decide +kernel
theorem dX12_isFree_11 : decode cX12_isFree 11 = .ok (.bipush 100, 2) := by decide +kernel
theorem dX12_isFree_13 : decode cX12_isFree 13 = .ok (.iload_n 1, 1) := by decide +kernel
theorem dX12_isFree_14 : decode cX12_isFree 14 = .ok (.iadd, 1) := by decide +kernel
theorem dX12_isFree_15 : decode cX12_isFree 15 = .ok (.iaload, 1) := by decide +kernel
theorem dX12_isFree_16 : decode cX12_isFree 16 = .ok (.ifCond .ne 7, 3) := by decide +kernel
theorem dX12_isFree_19 : decode cX12_isFree 19 = .ok (.iconst 1, 1) := by decide +kernel
theorem dX12_isFree_20 : decode cX12_isFree 20 = .ok (.goto 4, 3) := by decide +kernel
theorem dX12_isFree_23 : decode cX12_isFree 23 = .ok (.iconst 0, 1) := by decide +kernel
theorem dX12_isFree_24 : decode cX12_isFree 24 = .ok (.ireturn, 1) := by decide +kernel
theorem dX12_isPerson_0 : decode cX12_isPerson 0 = .ok (.iload_n 1, 1) := by decide +kernel
theorem dX12_isPerson_1 : decode cX12_isPerson 1 = .ok (.iconst 0, 1) := by decide +kernel
theorem dX12_isPerson_2 : decode cX12_isPerson 2 = .ok (.aload_n 0, 1) := by decide +kernel
theorem dX12_isPerson_3 : decode cX12_isPerson 3 = .ok (.getfield 7, 3) := by decide +kernel
theorem dX12_isPerson_6 : decode cX12_isPerson 6 = .ok (.iconst 0, 1) := by decide +kernel
theorem dX12_isPerson_7 : decode cX12_isPerson 7 = .ok (.iaload, 1) := by decide +kernel
theorem dX12_isPerson_8 : decode cX12_isPerson 8 = .ok (.iconst 1, 1) := by decide +kernel
theorem dX12_isPerson_9 : decode cX12_isPerson 9 = .ok (.isub, 1) := by decide +kernel
theorem dX12_isPerson_10 : decode cX12_isPerson 10 = .ok (.invokestatic 87, 3) := by decide +kernel
theorem dX12_isPerson_13 : decode cX12_isPerson 13 = .ok (.ireturn, 1) := by decide +kernel
theorem dX12_get_0 : decode cX12_get 0 = .ok (.aload_n 0, 1) := by decide +kernel
theorem dX12_get_1 : decode cX12_get 1 = .ok (.getfield 7, 3) := by decide +kernel
theorem dX12_get_4 : decode cX12_get 4 = .ok (.bipush 10, 2) := by decide +kernel
theorem dX12_get_6 : decode cX12_get 6 = .ok (.bipush 6, 2) := by decide +kernel
theorem dX12_get_8 : decode cX12_get 8 = .ok (.iload_n 1, 1) := by decide +kernel
theorem dX12_get_9 : decode cX12_get 9 = .ok (.imul, 1) := by decide +kernel
theorem dX12_get_10 : decode cX12_get 10 = .ok (.iadd, 1) := by decide +kernel
theorem dX12_get_11 : decode cX12_get 11 = .ok (.iload_n 2, 1) := by decide +kernel
theorem dX12_get_12 : decode cX12_get 12 = .ok (.iadd, 1) := by decide +kernel
theorem dX12_get_13 : decode cX12_get 13 = .ok (.iaload, 1) := by decide +kernel
theorem dX12_get_14 : decode cX12_get 14 = .ok (.ireturn, 1) := by decide +kernel
theorem dX12_put_0 : decode cX12_put 0 = .ok (.aload_n 0, 1) := by decide +kernel
theorem dX12_put_1 : decode cX12_put 1 = .ok (.getfield 7, 3) := by decide +kernel
theorem dX12_put_4 : decode cX12_put 4 = .ok (.bipush 10, 2) := by decide +kernel
theorem dX12_put_6 : decode cX12_put 6 = .ok (.bipush 6, 2) := by decide +kernel
theorem dX12_put_8 : decode cX12_put 8 = .ok (.iload_n 1, 1) := by decide +kernel
theorem dX12_put_9 : decode cX12_put 9 = .ok (.imul, 1) := by decide +kernel
theorem dX12_put_10 : decode cX12_put 10 = .ok (.iadd, 1) := by decide +kernel
theorem dX12_put_11 : decode cX12_put 11 = .ok (.iload_n 2, 1) := by decide +kernel
theorem dX12_put_12 : decode cX12_put 12 = .ok (.iadd, 1) := by decide +kernel
theorem dX12_put_13 : decode cX12_put 13 = .ok (.iload_n 3, 1) := by decide +kernel
theorem dX12_put_14 : decode cX12_put 14 = .ok (.iastore, 1) := by decide +kernel
theorem dX12_put_15 : decode cX12_put 15 = .ok (.return_, 1) := by decide +kernel
theorem dX12_sideOf_0 : decode cX12_sideOf 0 = .ok (.iload_n 1, 1) := by decide +kernel
theorem dX12_sideOf_1 : decode cX12_sideOf 1 = .ok (.tableswitch 73 0 2 #[27, 42, 57], 27) := by decide +kernel
theorem dX12_sideOf_28 : decode cX12_sideOf 28 = .ok (.iload_n 0, 1) := by decide +kernel
theorem dX12_sideOf_29 : decode cX12_sideOf 29 = .ok (.bipush 6, 2) := by decide +kernel
theorem dX12_sideOf_31 : decode cX12_sideOf 31 = .ok (.if_icmp .lt 10, 3) := by decide +kernel
theorem dX12_sideOf_34 : decode cX12_sideOf 34 = .ok (.iload_n 0, 1) := by decide +kernel
theorem dX12_sideOf_35 : decode cX12_sideOf 35 = .ok (.bipush 6, 2) := by decide +kernel
theorem dX12_sideOf_37 : decode cX12_sideOf 37 = .ok (.isub, 1) := by decide +kernel
theorem dX12_sideOf_38 : decode cX12_sideOf 38 = .ok (.goto 4, 3) := by decide +kernel
theorem dX12_sideOf_41 : decode cX12_sideOf 41 = .ok (.iconst (-1), 1) := by decide +kernel
theorem dX12_sideOf_42 : decode cX12_sideOf 42 = .ok (.ireturn, 1) := by decide +kernel
theorem dX12_sideOf_43 : decode cX12_sideOf 43 = .ok (.iload_n 0, 1) := by decide +kernel
theorem dX12_sideOf_44 : decode cX12_sideOf 44 = .ok (.bipush 6, 2) := by decide +kernel
theorem dX12_sideOf_46 : decode cX12_sideOf 46 = .ok (.irem, 1) := by decide +kernel
theorem dX12_sideOf_47 : decode cX12_sideOf 47 = .ok (.ifCond .le 9, 3) := by decide +kernel
theorem dX12_sideOf_50 : decode cX12_sideOf 50 = .ok (.iload_n 0, 1) := by decide +kernel
theorem dX12_sideOf_51 : decode cX12_sideOf 51 = .ok (.iconst 1, 1) := by decide +kernel
theorem dX12_sideOf_52 : decode cX12_sideOf 52 = .ok (.isub, 1) := by decide +kernel
theorem dX12_sideOf_53 : decode cX12_sideOf 53 = .ok (.goto 4, 3) := by decide +kernel
theorem dX12_sideOf_56 : decode cX12_sideOf 56 = .ok (.iconst (-1), 1) := by decide +kernel
theorem dX12_sideOf_57 : decode cX12_sideOf 57 = .ok (.ireturn, 1) := by decide +kernel
theorem dX12_sideOf_58 : decode cX12_sideOf 58 = .ok (.iload_n 0, 1) := by decide +kernel
theorem dX12_sideOf_59 : decode cX12_sideOf 59 = .ok (.bipush 6, 2) := by decide +kernel
theorem dX12_sideOf_61 : decode cX12_sideOf 61 = .ok (.irem, 1) := by decide +kernel
theorem dX12_sideOf_62 : decode cX12_sideOf 62 = .ok (.iconst 5, 1) := by decide +kernel
theorem dX12_sideOf_63 : decode cX12_sideOf 63 = .ok (.if_icmp .ge 9, 3) := by decide +kernel
theorem dX12_sideOf_66 : decode cX12_sideOf 66 = .ok (.iload_n 0, 1) := by decide +kernel
theorem dX12_sideOf_67 : decode cX12_sideOf 67 = .ok (.iconst 1, 1) := by decide +kernel
theorem dX12_sideOf_68 : decode cX12_sideOf 68 = .ok (.iadd, 1) := by decide +kernel
theorem dX12_sideOf_69 : decode cX12_sideOf 69 = .ok (.goto 4, 3) := by decide +kernel
theorem dX12_sideOf_72 : decode cX12_sideOf 72 = .ok (.iconst (-1), 1) := by decide +kernel
theorem dX12_sideOf_73 : decode cX12_sideOf 73 = .ok (.ireturn, 1) := by decide +kernel
theorem dX12_sideOf_74 : decode cX12_sideOf 74 = .ok (.iload_n 0, 1) := by decide +kernel
theorem dX12_sideOf_75 : decode cX12_sideOf 75 = .ok (.bipush 24, 2) := by decide +kernel
theorem dX12_sideOf_77 : decode cX12_sideOf 77 = .ok (.if_icmp .ge 10, 3) := by decide +kernel
theorem dX12_sideOf_80 : decode cX12_sideOf 80 = .ok (.iload_n 0, 1) := by decide +kernel
theorem dX12_sideOf_81 : decode cX12_sideOf 81 = .ok (.bipush 6, 2) := by decide +kernel
theorem dX12_sideOf_83 : decode cX12_sideOf 83 = .ok (.iadd, 1) := by decide +kernel
theorem dX12_sideOf_84 : decode cX12_sideOf 84 = .ok (.goto 4, 3) := by decide +kernel
theorem dX12_sideOf_87 : decode cX12_sideOf 87 = .ok (.iconst (-1), 1) := by decide +kernel
theorem dX12_sideOf_88 : decode cX12_sideOf 88 = .ok (.ireturn, 1) := by decide +kernel
theorem dX12_beside_0 : decode cX12_beside 0 = .ok (.iconst 0, 1) := by decide +kernel
theorem dX12_beside_1 : decode cX12_beside 1 = .ok (.istore_n 1, 1) := by decide +kernel
theorem dX12_beside_2 : decode cX12_beside 2 = .ok (.iconst 0, 1) := by decide +kernel
theorem dX12_beside_3 : decode cX12_beside 3 = .ok (.istore_n 2, 1) := by decide +kernel
theorem dX12_beside_4 : decode cX12_beside 4 = .ok (.iload_n 2, 1) := by decide +kernel
theorem dX12_beside_5 : decode cX12_beside 5 = .ok (.iconst 4, 1) := by decide +kernel
theorem dX12_beside_6 : decode cX12_beside 6 = .ok (.if_icmp .ge 32, 3) := by decide +kernel
theorem dX12_beside_9 : decode cX12_beside 9 = .ok (.iload_n 1, 1) := by decide +kernel
theorem dX12_beside_10 : decode cX12_beside 10 = .ok (.iload_n 0, 1) := by decide +kernel
theorem dX12_beside_11 : decode cX12_beside 11 = .ok (.iload_n 2, 1) := by decide +kernel
theorem dX12_beside_12 : decode cX12_beside 12 = .ok (.invokestatic 95, 3) := by decide +kernel
theorem dX12_beside_15 : decode cX12_beside 15 = .ok (.iconst (-1), 1) := by decide +kernel
theorem dX12_beside_16 : decode cX12_beside 16 = .ok (.if_icmp .ne 7, 3) := by decide +kernel
theorem dX12_beside_19 : decode cX12_beside 19 = .ok (.iconst 0, 1) := by decide +kernel
theorem dX12_beside_20 : decode cX12_beside 20 = .ok (.goto 10, 3) := by decide +kernel
theorem dX12_beside_23 : decode cX12_beside 23 = .ok (.iconst 1, 1) := by decide +kernel
theorem dX12_beside_24 : decode cX12_beside 24 = .ok (.iload_n 0, 1) := by decide +kernel
theorem dX12_beside_25 : decode cX12_beside 25 = .ok (.iload_n 2, 1) := by decide +kernel
theorem dX12_beside_26 : decode cX12_beside 26 = .ok (.invokestatic 95, 3) := by decide +kernel
theorem dX12_beside_29 : decode cX12_beside 29 = .ok (.ishl, 1) := by decide +kernel
theorem dX12_beside_30 : decode cX12_beside 30 = .ok (.ior, 1) := by decide +kernel
theorem dX12_beside_31 : decode cX12_beside 31 = .ok (.istore_n 1, 1) := by decide +kernel
theorem dX12_beside_32 : decode cX12_beside 32 = .ok (.iinc 2 1, 3) := by decide +kernel
theorem dX12_beside_35 : decode cX12_beside 35 = .ok (.goto (-31), 3) := by decide +kernel
theorem dX12_beside_38 : decode cX12_beside 38 = .ok (.iload_n 1, 1) := by decide +kernel
theorem dX12_beside_39 : decode cX12_beside 39 = .ok (.ireturn, 1) := by decide +kernel
theorem dX12_free_0 : decode cX12_free 0 = .ok (.iconst 0, 1) := by decide +kernel
theorem dX12_free_1 : decode cX12_free 1 = .ok (.istore_n 1, 1) := by decide +kernel
theorem dX12_free_2 : decode cX12_free 2 = .ok (.iconst 0, 1) := by decide +kernel
theorem dX12_free_3 : decode cX12_free 3 = .ok (.istore_n 2, 1) := by decide +kernel
theorem dX12_free_4 : decode cX12_free 4 = .ok (.iload_n 2, 1) := by decide +kernel
theorem dX12_free_5 : decode cX12_free 5 = .ok (.bipush 30, 2) := by decide +kernel
theorem dX12_free_7 : decode cX12_free 7 = .ok (.if_icmp .ge 27, 3) := by decide +kernel
theorem dX12_free_10 : decode cX12_free 10 = .ok (.iload_n 1, 1) := by decide +kernel
theorem dX12_free_11 : decode cX12_free 11 = .ok (.aload_n 0, 1) := by decide +kernel
theorem dX12_free_12 : decode cX12_free 12 = .ok (.iload_n 2, 1) := by decide +kernel
theorem dX12_free_13 : decode cX12_free 13 = .ok (.invokevirtual 99, 3) := by decide +kernel
theorem dX12_free_16 : decode cX12_free 16 = .ok (.ifCond .eq 9, 3) := by decide +kernel
theorem dX12_free_19 : decode cX12_free 19 = .ok (.iconst 1, 1) := by decide +kernel
theorem dX12_free_20 : decode cX12_free 20 = .ok (.iload_n 2, 1) := by decide +kernel
theorem dX12_free_21 : decode cX12_free 21 = .ok (.ishl, 1) := by decide +kernel
theorem dX12_free_22 : decode cX12_free 22 = .ok (.goto 4, 3) := by decide +kernel
theorem dX12_free_25 : decode cX12_free 25 = .ok (.iconst 0, 1) := by decide +kernel
theorem dX12_free_26 : decode cX12_free 26 = .ok (.ior, 1) := by decide +kernel
theorem dX12_free_27 : decode cX12_free 27 = .ok (.istore_n 1, 1) := by decide +kernel
theorem dX12_free_28 : decode cX12_free 28 = .ok (.iinc 2 1, 3) := by decide +kernel
theorem dX12_free_31 : decode cX12_free 31 = .ok (.goto (-27), 3) := by decide +kernel
theorem dX12_free_34 : decode cX12_free 34 = .ok (.iload_n 1, 1) := by decide +kernel
theorem dX12_free_35 : decode cX12_free 35 = .ok (.ireturn, 1) := by decide +kernel
theorem dX12_aside_0 : decode cX12_aside 0 = .ok (.iload_n 0, 1) := by decide +kernel
theorem dX12_aside_1 : decode cX12_aside 1 = .ok (.ldc 102, 2) := by decide +kernel
theorem dX12_aside_3 : decode cX12_aside 3 = .ok (.iand, 1) := by decide +kernel
theorem dX12_aside_4 : decode cX12_aside 4 = .ok (.iconst 1, 1) := by decide +kernel
theorem dX12_aside_5 : decode cX12_aside 5 = .ok (.ishr, 1) := by decide +kernel
theorem dX12_aside_6 : decode cX12_aside 6 = .ok (.iload_n 0, 1) := by decide +kernel
theorem dX12_aside_7 : decode cX12_aside 7 = .ok (.ldc 103, 2) := by decide +kernel
theorem dX12_aside_9 : decode cX12_aside 9 = .ok (.iand, 1) := by decide +kernel
theorem dX12_aside_10 : decode cX12_aside 10 = .ok (.iconst 1, 1) := by decide +kernel
theorem dX12_aside_11 : decode cX12_aside 11 = .ok (.ishl, 1) := by decide +kernel
theorem dX12_aside_12 : decode cX12_aside 12 = .ok (.ior, 1) := by decide +kernel
theorem dX12_aside_13 : decode cX12_aside 13 = .ok (.iload_n 0, 1) := by decide +kernel
theorem dX12_aside_14 : decode cX12_aside 14 = .ok (.bipush 6, 2) := by decide +kernel
theorem dX12_aside_16 : decode cX12_aside 16 = .ok (.ishr, 1) := by decide +kernel
theorem dX12_aside_17 : decode cX12_aside 17 = .ok (.ior, 1) := by decide +kernel
theorem dX12_aside_18 : decode cX12_aside 18 = .ok (.iload_n 0, 1) := by decide +kernel
theorem dX12_aside_19 : decode cX12_aside 19 = .ok (.bipush 6, 2) := by decide +kernel
theorem dX12_aside_21 : decode cX12_aside 21 = .ok (.ishl, 1) := by decide +kernel
theorem dX12_aside_22 : decode cX12_aside 22 = .ok (.ior, 1) := by decide +kernel
theorem dX12_aside_23 : decode cX12_aside 23 = .ok (.ldc 104, 2) := by decide +kernel
theorem dX12_aside_25 : decode cX12_aside 25 = .ok (.iand, 1) := by decide +kernel
theorem dX12_aside_26 : decode cX12_aside 26 = .ok (.ireturn, 1) := by decide +kernel
theorem dX12_peopleAt_0 : decode cX12_peopleAt 0 = .ok (.iconst 0, 1) := by decide +kernel
theorem dX12_peopleAt_1 : decode cX12_peopleAt 1 = .ok (.istore_n 2, 1) := by decide +kernel
theorem dX12_peopleAt_2 : decode cX12_peopleAt 2 = .ok (.iconst 0, 1) := by decide +kernel
theorem dX12_peopleAt_3 : decode cX12_peopleAt 3 = .ok (.istore_n 3, 1) := by decide +kernel
theorem dX12_peopleAt_4 : decode cX12_peopleAt 4 = .ok (.iload_n 3, 1) := by decide +kernel
theorem dX12_peopleAt_5 : decode cX12_peopleAt 5 = .ok (.aload_n 0, 1) := by decide +kernel
theorem dX12_peopleAt_6 : decode cX12_peopleAt 6 = .ok (.getfield 7, 3) := by decide +kernel
theorem dX12_peopleAt_9 : decode cX12_peopleAt 9 = .ok (.iconst 0, 1) := by decide +kernel
theorem dX12_peopleAt_10 : decode cX12_peopleAt 10 = .ok (.iaload, 1) := by decide +kernel
theorem dX12_peopleAt_11 : decode cX12_peopleAt 11 = .ok (.if_icmp .ge 29, 3) := by decide +kernel
theorem dX12_peopleAt_14 : decode cX12_peopleAt 14 = .ok (.iload_n 2, 1) := by decide +kernel
theorem dX12_peopleAt_15 : decode cX12_peopleAt 15 = .ok (.aload_n 0, 1) := by decide +kernel
theorem dX12_peopleAt_16 : decode cX12_peopleAt 16 = .ok (.iload_n 3, 1) := by decide +kernel
theorem dX12_peopleAt_17 : decode cX12_peopleAt 17 = .ok (.iconst 0, 1) := by decide +kernel
theorem dX12_peopleAt_18 : decode cX12_peopleAt 18 = .ok (.invokevirtual 105, 3) := by decide +kernel
theorem dX12_peopleAt_21 : decode cX12_peopleAt 21 = .ok (.iload_n 1, 1) := by decide +kernel
theorem dX12_peopleAt_22 : decode cX12_peopleAt 22 = .ok (.if_icmp .ne 9, 3) := by decide +kernel
theorem dX12_peopleAt_25 : decode cX12_peopleAt 25 = .ok (.iconst 1, 1) := by decide +kernel
theorem dX12_peopleAt_26 : decode cX12_peopleAt 26 = .ok (.iload_n 3, 1) := by decide +kernel
theorem dX12_peopleAt_27 : decode cX12_peopleAt 27 = .ok (.ishl, 1) := by decide +kernel
theorem dX12_peopleAt_28 : decode cX12_peopleAt 28 = .ok (.goto 4, 3) := by decide +kernel
theorem dX12_peopleAt_31 : decode cX12_peopleAt 31 = .ok (.iconst 0, 1) := by decide +kernel
theorem dX12_peopleAt_32 : decode cX12_peopleAt 32 = .ok (.ior, 1) := by decide +kernel
theorem dX12_peopleAt_33 : decode cX12_peopleAt 33 = .ok (.istore_n 2, 1) := by decide +kernel
theorem dX12_peopleAt_34 : decode cX12_peopleAt 34 = .ok (.iinc 3 1, 3) := by decide +kernel
theorem dX12_peopleAt_37 : decode cX12_peopleAt 37 = .ok (.goto (-33), 3) := by decide +kernel
theorem dX12_peopleAt_40 : decode cX12_peopleAt 40 = .ok (.iload_n 2, 1) := by decide +kernel
theorem dX12_peopleAt_41 : decode cX12_peopleAt 41 = .ok (.ireturn, 1) := by decide +kernel
theorem dX12_person_0 : decode cX12_person 0 = .ok (.aload_n 0, 1) := by decide +kernel
theorem dX12_person_1 : decode cX12_person 1 = .ok (.iload_n 1, 1) := by decide +kernel
theorem dX12_person_2 : decode cX12_person 2 = .ok (.invokevirtual 99, 3) := by decide +kernel
theorem dX12_person_5 : decode cX12_person 5 = .ok (.ifCond .eq 13, 3) := by decide +kernel
theorem dX12_person_8 : decode cX12_person 8 = .ok (.aload_n 0, 1) := by decide +kernel
theorem dX12_person_9 : decode cX12_person 9 = .ok (.getfield 7, 3) := by decide +kernel
theorem dX12_person_12 : decode cX12_person 12 = .ok (.iconst 0, 1) := by decide +kernel
theorem dX12_person_13 : decode cX12_person 13 = .ok (.iaload, 1) := by decide +kernel
theorem dX12_person_14 : decode cX12_person 14 = .ok (.iconst 5, 1) := by decide +kernel
theorem dX12_person_15 : decode cX12_person 15 = .ok (.if_icmp .ne 5, 3) := by decide +kernel
theorem dX12_person_18 : decode cX12_person 18 = .ok (.iconst (-1), 1) := by decide +kernel
theorem dX12_person_19 : decode cX12_person 19 = .ok (.ireturn, 1) := by decide +kernel
theorem dX12_person_20 : decode cX12_person 20 = .ok (.aload_n 0, 1) := by decide +kernel
theorem dX12_person_21 : decode cX12_person 21 = .ok (.getfield 7, 3) := by decide +kernel
theorem dX12_person_24 : decode cX12_person 24 = .ok (.iconst 0, 1) := by decide +kernel
theorem dX12_person_25 : decode cX12_person 25 = .ok (.iaload, 1) := by decide +kernel
theorem dX12_person_26 : decode cX12_person 26 = .ok (.istore_n 3, 1) := by decide +kernel
theorem dX12_person_27 : decode cX12_person 27 = .ok (.aload_n 0, 1) := by decide +kernel
theorem dX12_person_28 : decode cX12_person 28 = .ok (.iload_n 3, 1) := by decide +kernel
theorem dX12_person_29 : decode cX12_person 29 = .ok (.iconst 4, 1) := by decide +kernel
theorem dX12_person_30 : decode cX12_person 30 = .ok (.iload_n 1, 1) := by decide +kernel
theorem dX12_person_31 : decode cX12_person 31 = .ok (.invokevirtual 108, 3) := by decide +kernel
theorem dX12_person_34 : decode cX12_person 34 = .ok (.aload_n 0, 1) := by decide +kernel
theorem dX12_person_35 : decode cX12_person 35 = .ok (.iload_n 3, 1) := by decide +kernel
theorem dX12_person_36 : decode cX12_person 36 = .ok (.iconst 5, 1) := by decide +kernel
theorem dX12_person_37 : decode cX12_person 37 = .ok (.iload_n 2, 1) := by decide +kernel
theorem dX12_person_38 : decode cX12_person 38 = .ok (.ifCond .eq 7, 3) := by decide +kernel
theorem dX12_person_41 : decode cX12_person 41 = .ok (.iconst 1, 1) := by decide +kernel
theorem dX12_person_42 : decode cX12_person 42 = .ok (.goto 4, 3) := by decide +kernel
theorem dX12_person_45 : decode cX12_person 45 = .ok (.iconst 0, 1) := by decide +kernel
theorem dX12_person_46 : decode cX12_person 46 = .ok (.invokevirtual 108, 3) := by decide +kernel
theorem dX12_person_49 : decode cX12_person 49 = .ok (.aload_n 0, 1) := by decide +kernel
theorem dX12_person_50 : decode cX12_person 50 = .ok (.iload_n 3, 1) := by decide +kernel
theorem dX12_person_51 : decode cX12_person 51 = .ok (.invokevirtual 112, 3) := by decide +kernel
theorem dX12_person_54 : decode cX12_person 54 = .ok (.aload_n 0, 1) := by decide +kernel
theorem dX12_person_55 : decode cX12_person 55 = .ok (.getfield 7, 3) := by decide +kernel
theorem dX12_person_58 : decode cX12_person 58 = .ok (.iconst 0, 1) := by decide +kernel
theorem dX12_person_59 : decode cX12_person 59 = .ok (.dup2, 1) := by decide +kernel
theorem dX12_person_60 : decode cX12_person 60 = .ok (.iaload, 1) := by decide +kernel
theorem dX12_person_61 : decode cX12_person 61 = .ok (.iconst 1, 1) := by decide +kernel
theorem dX12_person_62 : decode cX12_person 62 = .ok (.iadd, 1) := by decide +kernel
theorem dX12_person_63 : decode cX12_person 63 = .ok (.iastore, 1) := by decide +kernel
theorem dX12_person_64 : decode cX12_person 64 = .ok (.iload_n 3, 1) := by decide +kernel
theorem dX12_person_65 : decode cX12_person 65 = .ok (.ireturn, 1) := by decide +kernel
theorem dX12_begin_0 : decode cX12_begin 0 = .ok (.aload_n 0, 1) := by decide +kernel
theorem dX12_begin_1 : decode cX12_begin 1 = .ok (.iload_n 1, 1) := by decide +kernel
theorem dX12_begin_2 : decode cX12_begin 2 = .ok (.iconst 0, 1) := by decide +kernel
theorem dX12_begin_3 : decode cX12_begin 3 = .ok (.aload_n 0, 1) := by decide +kernel
theorem dX12_begin_4 : decode cX12_begin 4 = .ok (.iload_n 1, 1) := by decide +kernel
theorem dX12_begin_5 : decode cX12_begin 5 = .ok (.iconst 4, 1) := by decide +kernel
theorem dX12_begin_6 : decode cX12_begin 6 = .ok (.invokevirtual 105, 3) := by decide +kernel
theorem dX12_begin_9 : decode cX12_begin 9 = .ok (.invokevirtual 108, 3) := by decide +kernel
theorem dX12_begin_12 : decode cX12_begin 12 = .ok (.aload_n 0, 1) := by decide +kernel
theorem dX12_begin_13 : decode cX12_begin 13 = .ok (.iload_n 1, 1) := by decide +kernel
theorem dX12_begin_14 : decode cX12_begin 14 = .ok (.iconst 1, 1) := by decide +kernel
theorem dX12_begin_15 : decode cX12_begin 15 = .ok (.aload_n 0, 1) := by decide +kernel
theorem dX12_begin_16 : decode cX12_begin 16 = .ok (.iload_n 1, 1) := by decide +kernel
theorem dX12_begin_17 : decode cX12_begin 17 = .ok (.iconst 5, 1) := by decide +kernel
theorem dX12_begin_18 : decode cX12_begin 18 = .ok (.invokevirtual 105, 3) := by decide +kernel
theorem dX12_begin_21 : decode cX12_begin 21 = .ok (.invokevirtual 108, 3) := by decide +kernel
theorem dX12_begin_24 : decode cX12_begin 24 = .ok (.aload_n 0, 1) := by decide +kernel
theorem dX12_begin_25 : decode cX12_begin 25 = .ok (.iload_n 1, 1) := by decide +kernel
theorem dX12_begin_26 : decode cX12_begin 26 = .ok (.iconst 2, 1) := by decide +kernel
theorem dX12_begin_27 : decode cX12_begin 27 = .ok (.iconst 0, 1) := by decide +kernel
theorem dX12_begin_28 : decode cX12_begin 28 = .ok (.invokevirtual 108, 3) := by decide +kernel
theorem dX12_begin_31 : decode cX12_begin 31 = .ok (.aload_n 0, 1) := by decide +kernel
theorem dX12_begin_32 : decode cX12_begin 32 = .ok (.iload_n 1, 1) := by decide +kernel
theorem dX12_begin_33 : decode cX12_begin 33 = .ok (.iconst 3, 1) := by decide +kernel
theorem dX12_begin_34 : decode cX12_begin 34 = .ok (.iconst 0, 1) := by decide +kernel
theorem dX12_begin_35 : decode cX12_begin 35 = .ok (.invokevirtual 108, 3) := by decide +kernel
theorem dX12_begin_38 : decode cX12_begin 38 = .ok (.return_, 1) := by decide +kernel
theorem dX12_field_0 : decode cX12_field 0 = .ok (.iload_n 1, 1) := by decide +kernel
theorem dX12_field_1 : decode cX12_field 1 = .ok (.invokestatic 91, 3) := by decide +kernel
theorem dX12_field_4 : decode cX12_field 4 = .ok (.ifCond .eq 13, 3) := by decide +kernel
theorem dX12_field_7 : decode cX12_field 7 = .ok (.iload_n 2, 1) := by decide +kernel
theorem dX12_field_8 : decode cX12_field 8 = .ok (.iconst 0, 1) := by decide +kernel
theorem dX12_field_9 : decode cX12_field 9 = .ok (.bipush 99, 2) := by decide +kernel
theorem dX12_field_11 : decode cX12_field 11 = .ok (.invokestatic 87, 3) := by decide +kernel
theorem dX12_field_14 : decode cX12_field 14 = .ok (.ifCond .ne 5, 3) := by decide +kernel
theorem dX12_field_17 : decode cX12_field 17 = .ok (.iconst 0, 1) := by decide +kernel
theorem dX12_field_18 : decode cX12_field 18 = .ok (.ireturn, 1) := by decide +kernel
theorem dX12_field_19 : decode cX12_field 19 = .ok (.aload_n 0, 1) := by decide +kernel
theorem dX12_field_20 : decode cX12_field 20 = .ok (.getfield 7, 3) := by decide +kernel
theorem dX12_field_23 : decode cX12_field 23 = .ok (.bipush 70, 2) := by decide +kernel
theorem dX12_field_25 : decode cX12_field 25 = .ok (.iload_n 1, 1) := by decide +kernel
theorem dX12_field_26 : decode cX12_field 26 = .ok (.iadd, 1) := by decide +kernel
theorem dX12_field_27 : decode cX12_field 27 = .ok (.iload_n 2, 1) := by decide +kernel
theorem dX12_field_28 : decode cX12_field 28 = .ok (.iastore, 1) := by decide +kernel
theorem dX12_field_29 : decode cX12_field 29 = .ok (.iconst 1, 1) := by decide +kernel
theorem dX12_field_30 : decode cX12_field 30 = .ok (.ireturn, 1) := by decide +kernel
theorem dX12_shed_0 : decode cX12_shed 0 = .ok (.iload_n 1, 1) := by decide +kernel
theorem dX12_shed_1 : decode cX12_shed 1 = .ok (.invokestatic 91, 3) := by decide +kernel
theorem dX12_shed_4 : decode cX12_shed 4 = .ok (.ifCond .eq 31, 3) := by decide +kernel
theorem dX12_shed_7 : decode cX12_shed 7 = .ok (.aload_n 0, 1) := by decide +kernel
theorem dX12_shed_8 : decode cX12_shed 8 = .ok (.iload_n 1, 1) := by decide +kernel
theorem dX12_shed_9 : decode cX12_shed 9 = .ok (.invokevirtual 99, 3) := by decide +kernel
theorem dX12_shed_12 : decode cX12_shed 12 = .ok (.iload_n 2, 1) := by decide +kernel
theorem dX12_shed_13 : decode cX12_shed 13 = .ok (.if_icmp .ne 22, 3) := by decide +kernel
theorem dX12_shed_16 : decode cX12_shed 16 = .ok (.aload_n 0, 1) := by decide +kernel
theorem dX12_shed_17 : decode cX12_shed 17 = .ok (.iload_n 1, 1) := by decide +kernel
theorem dX12_shed_18 : decode cX12_shed 18 = .ok (.invokevirtual 116, 3) := by decide +kernel
theorem dX12_shed_21 : decode cX12_shed 21 = .ok (.ifCond .ne 14, 3) := by decide +kernel
theorem dX12_shed_24 : decode cX12_shed 24 = .ok (.aload_n 0, 1) := by decide +kernel
theorem dX12_shed_25 : decode cX12_shed 25 = .ok (.getfield 7, 3) := by decide +kernel
theorem dX12_shed_28 : decode cX12_shed 28 = .ok (.bipush 7, 2) := by decide +kernel
theorem dX12_shed_30 : decode cX12_shed 30 = .ok (.iaload, 1) := by decide +kernel
theorem dX12_shed_31 : decode cX12_shed 31 = .ok (.iload_n 1, 1) := by decide +kernel
theorem dX12_shed_32 : decode cX12_shed 32 = .ok (.if_icmp .ne 5, 3) := by decide +kernel
theorem dX12_shed_35 : decode cX12_shed 35 = .ok (.iconst 0, 1) := by decide +kernel
theorem dX12_shed_36 : decode cX12_shed 36 = .ok (.ireturn, 1) := by decide +kernel
theorem dX12_shed_37 : decode cX12_shed 37 = .ok (.aload_n 0, 1) := by decide +kernel
theorem dX12_shed_38 : decode cX12_shed 38 = .ok (.getfield 7, 3) := by decide +kernel
theorem dX12_shed_41 : decode cX12_shed 41 = .ok (.bipush 100, 2) := by decide +kernel
theorem dX12_shed_43 : decode cX12_shed 43 = .ok (.iload_n 1, 1) := by decide +kernel
theorem dX12_shed_44 : decode cX12_shed 44 = .ok (.iadd, 1) := by decide +kernel
theorem dX12_shed_45 : decode cX12_shed 45 = .ok (.iload_n 2, 1) := by decide +kernel
theorem dX12_shed_46 : decode cX12_shed 46 = .ok (.ifCond .eq 7, 3) := by decide +kernel
theorem dX12_shed_49 : decode cX12_shed 49 = .ok (.iconst 1, 1) := by decide +kernel
theorem dX12_shed_50 : decode cX12_shed 50 = .ok (.goto 4, 3) := by decide +kernel
theorem dX12_shed_53 : decode cX12_shed 53 = .ok (.iconst 0, 1) := by decide +kernel
theorem dX12_shed_54 : decode cX12_shed 54 = .ok (.iastore, 1) := by decide +kernel
theorem dX12_shed_55 : decode cX12_shed 55 = .ok (.iconst 1, 1) := by decide +kernel
theorem dX12_shed_56 : decode cX12_shed 56 = .ok (.ireturn, 1) := by decide +kernel
theorem dX12_four_0 : decode cX12_four 0 = .ok (.bipush 24, 2) := by decide +kernel
theorem dX12_four_2 : decode cX12_four 2 = .ok (.istore_n 2, 1) := by decide +kernel
theorem dX12_four_3 : decode cX12_four 3 = .ok (.iload_n 2, 1) := by decide +kernel
theorem dX12_four_4 : decode cX12_four 4 = .ok (.ifCond .lt 35, 3) := by decide +kernel
theorem dX12_four_7 : decode cX12_four 7 = .ok (.aload_n 0, 1) := by decide +kernel
theorem dX12_four_8 : decode cX12_four 8 = .ok (.getfield 19, 3) := by decide +kernel
theorem dX12_four_11 : decode cX12_four 11 = .ok (.aload_n 0, 1) := by decide +kernel
theorem dX12_four_12 : decode cX12_four 12 = .ok (.getfield 120, 3) := by decide +kernel
theorem dX12_four_15 : decode cX12_four 15 = .ok (.iload_n 1, 1) := by decide +kernel
theorem dX12_four_16 : decode cX12_four 16 = .ok (.iload_n 2, 1) := by decide +kernel
theorem dX12_four_17 : decode cX12_four 17 = .ok (.ishr, 1) := by decide +kernel
theorem dX12_four_18 : decode cX12_four 18 = .ok (.sipush 255, 3) := by decide +kernel
theorem dX12_four_21 : decode cX12_four 21 = .ok (.iand, 1) := by decide +kernel
theorem dX12_four_22 : decode cX12_four 22 = .ok (.iastore, 1) := by decide +kernel
theorem dX12_four_23 : decode cX12_four 23 = .ok (.aload_n 0, 1) := by decide +kernel
theorem dX12_four_24 : decode cX12_four 24 = .ok (.dup, 1) := by decide +kernel
theorem dX12_four_25 : decode cX12_four 25 = .ok (.getfield 120, 3) := by decide +kernel
theorem dX12_four_28 : decode cX12_four 28 = .ok (.iconst 1, 1) := by decide +kernel
theorem dX12_four_29 : decode cX12_four 29 = .ok (.iadd, 1) := by decide +kernel
theorem dX12_four_30 : decode cX12_four 30 = .ok (.putfield 120, 3) := by decide +kernel
theorem dX12_four_33 : decode cX12_four 33 = .ok (.iinc 2 (-8), 3) := by decide +kernel
theorem dX12_four_36 : decode cX12_four 36 = .ok (.goto (-33), 3) := by decide +kernel
theorem dX12_four_39 : decode cX12_four 39 = .ok (.return_, 1) := by decide +kernel
theorem dX12_feed_0 : decode cX12_feed 0 = .ok (.aload_n 0, 1) := by decide +kernel
theorem dX12_feed_1 : decode cX12_feed 1 = .ok (.getfield 120, 3) := by decide +kernel
theorem dX12_feed_4 : decode cX12_feed 4 = .ok (.bipush 20, 2) := by decide +kernel
theorem dX12_feed_6 : decode cX12_feed 6 = .ok (.iadd, 1) := by decide +kernel
theorem dX12_feed_7 : decode cX12_feed 7 = .ok (.sipush 300, 3) := by decide +kernel
theorem dX12_feed_10 : decode cX12_feed 10 = .ok (.if_icmp .le 5, 3) := by decide +kernel
theorem dX12_feed_13 : decode cX12_feed 13 = .ok (.iconst (-1), 1) := by decide +kernel
theorem dX12_feed_14 : decode cX12_feed 14 = .ok (.ireturn, 1) := by decide +kernel
theorem dX12_feed_15 : decode cX12_feed 15 = .ok (.aload_n 0, 1) := by decide +kernel
theorem dX12_feed_16 : decode cX12_feed 16 = .ok (.iload_n 1, 1) := by decide +kernel
theorem dX12_feed_17 : decode cX12_feed 17 = .ok (.invokevirtual 123, 3) := by decide +kernel
theorem dX12_feed_20 : decode cX12_feed 20 = .ok (.aload_n 0, 1) := by decide +kernel
theorem dX12_feed_21 : decode cX12_feed 21 = .ok (.iload_n 2, 1) := by decide +kernel
theorem dX12_feed_22 : decode cX12_feed 22 = .ok (.invokevirtual 123, 3) := by decide +kernel
theorem dX12_feed_25 : decode cX12_feed 25 = .ok (.aload_n 0, 1) := by decide +kernel
theorem dX12_feed_26 : decode cX12_feed 26 = .ok (.iload_n 3, 1) := by decide +kernel
theorem dX12_feed_27 : decode cX12_feed 27 = .ok (.invokevirtual 123, 3) := by decide +kernel
theorem dX12_feed_30 : decode cX12_feed 30 = .ok (.aload_n 0, 1) := by decide +kernel
theorem dX12_feed_31 : decode cX12_feed 31 = .ok (.iload 4, 2) := by decide +kernel
theorem dX12_feed_33 : decode cX12_feed 33 = .ok (.invokevirtual 123, 3) := by decide +kernel
theorem dX12_feed_36 : decode cX12_feed 36 = .ok (.aload_n 0, 1) := by decide +kernel
theorem dX12_feed_37 : decode cX12_feed 37 = .ok (.iload 5, 2) := by decide +kernel
theorem dX12_feed_39 : decode cX12_feed 39 = .ok (.invokevirtual 123, 3) := by decide +kernel
theorem dX12_feed_42 : decode cX12_feed 42 = .ok (.aload_n 0, 1) := by decide +kernel
theorem dX12_feed_43 : decode cX12_feed 43 = .ok (.getfield 120, 3) := by decide +kernel
theorem dX12_feed_46 : decode cX12_feed 46 = .ok (.ireturn, 1) := by decide +kernel
theorem dX12_end_0 : decode cX12_end 0 = .ok (.iload_n 1, 1) := by decide +kernel
theorem dX12_end_1 : decode cX12_end 1 = .ok (.iconst 0, 1) := by decide +kernel
theorem dX12_end_2 : decode cX12_end 2 = .ok (.aload_n 0, 1) := by decide +kernel
theorem dX12_end_3 : decode cX12_end 3 = .ok (.getfield 120, 3) := by decide +kernel
theorem dX12_end_6 : decode cX12_end 6 = .ok (.invokestatic 87, 3) := by decide +kernel
theorem dX12_end_9 : decode cX12_end 9 = .ok (.ifCond .ne 5, 3) := by decide +kernel
theorem dX12_end_12 : decode cX12_end 12 = .ok (.iconst (-1), 1) := by decide +kernel
theorem dX12_end_13 : decode cX12_end 13 = .ok (.ireturn, 1) := by decide +kernel
theorem dX12_end_14 : decode cX12_end 14 = .ok (.aload_n 0, 1) := by decide +kernel
theorem dX12_end_15 : decode cX12_end 15 = .ok (.iload_n 1, 1) := by decide +kernel
theorem dX12_end_16 : decode cX12_end 16 = .ok (.putfield 120, 3) := by decide +kernel
theorem dX12_end_19 : decode cX12_end 19 = .ok (.iload_n 1, 1) := by decide +kernel
theorem dX12_end_20 : decode cX12_end 20 = .ok (.ireturn, 1) := by decide +kernel
theorem dX12_byteAt_0 : decode cX12_byteAt 0 = .ok (.iload_n 1, 1) := by decide +kernel
theorem dX12_byteAt_1 : decode cX12_byteAt 1 = .ok (.aload_n 0, 1) := by decide +kernel
theorem dX12_byteAt_2 : decode cX12_byteAt 2 = .ok (.getfield 120, 3) := by decide +kernel
theorem dX12_byteAt_5 : decode cX12_byteAt 5 = .ok (.if_icmp .ge 12, 3) := by decide +kernel
theorem dX12_byteAt_8 : decode cX12_byteAt 8 = .ok (.aload_n 0, 1) := by decide +kernel
theorem dX12_byteAt_9 : decode cX12_byteAt 9 = .ok (.getfield 19, 3) := by decide +kernel
theorem dX12_byteAt_12 : decode cX12_byteAt 12 = .ok (.iload_n 1, 1) := by decide +kernel
theorem dX12_byteAt_13 : decode cX12_byteAt 13 = .ok (.iaload, 1) := by decide +kernel
theorem dX12_byteAt_14 : decode cX12_byteAt 14 = .ok (.goto 4, 3) := by decide +kernel
theorem dX12_byteAt_17 : decode cX12_byteAt 17 = .ok (.iconst (-1), 1) := by decide +kernel
theorem dX12_byteAt_18 : decode cX12_byteAt 18 = .ok (.ireturn, 1) := by decide +kernel
theorem dX12_isLetterByte_0 : decode cX12_isLetterByte 0 = .ok (.iload_n 0, 1) := by decide +kernel
theorem dX12_isLetterByte_1 : decode cX12_isLetterByte 1 = .ok (.bipush 97, 2) := by decide +kernel
theorem dX12_isLetterByte_3 : decode cX12_isLetterByte 3 = .ok (.if_icmp .lt 9, 3) := by decide +kernel
theorem dX12_isLetterByte_6 : decode cX12_isLetterByte 6 = .ok (.iload_n 0, 1) := by decide +kernel
theorem dX12_isLetterByte_7 : decode cX12_isLetterByte 7 = .ok (.bipush 122, 2) := by decide +kernel
theorem dX12_isLetterByte_9 : decode cX12_isLetterByte 9 = .ok (.if_icmp .le 15, 3) := by decide +kernel
theorem dX12_isLetterByte_12 : decode cX12_isLetterByte 12 = .ok (.iload_n 0, 1) := by decide +kernel
theorem dX12_isLetterByte_13 : decode cX12_isLetterByte 13 = .ok (.bipush 65, 2) := by decide +kernel
theorem dX12_isLetterByte_15 : decode cX12_isLetterByte 15 = .ok (.if_icmp .lt 13, 3) := by decide +kernel
theorem dX12_isLetterByte_18 : decode cX12_isLetterByte 18 = .ok (.iload_n 0, 1) := by decide +kernel
theorem dX12_isLetterByte_19 : decode cX12_isLetterByte 19 = .ok (.bipush 90, 2) := by decide +kernel
theorem dX12_isLetterByte_21 : decode cX12_isLetterByte 21 = .ok (.if_icmp .gt 7, 3) := by decide +kernel
theorem dX12_isLetterByte_24 : decode cX12_isLetterByte 24 = .ok (.iconst 1, 1) := by decide +kernel
theorem dX12_isLetterByte_25 : decode cX12_isLetterByte 25 = .ok (.goto 4, 3) := by decide +kernel
theorem dX12_isLetterByte_28 : decode cX12_isLetterByte 28 = .ok (.iconst 0, 1) := by decide +kernel
theorem dX12_isLetterByte_29 : decode cX12_isLetterByte 29 = .ok (.ireturn, 1) := by decide +kernel
theorem dX12_isFigure_0 : decode cX12_isFigure 0 = .ok (.iload_n 0, 1) := by decide +kernel
theorem dX12_isFigure_1 : decode cX12_isFigure 1 = .ok (.bipush 48, 2) := by decide +kernel
theorem dX12_isFigure_3 : decode cX12_isFigure 3 = .ok (.if_icmp .lt 13, 3) := by decide +kernel
theorem dX12_isFigure_6 : decode cX12_isFigure 6 = .ok (.iload_n 0, 1) := by decide +kernel
theorem dX12_isFigure_7 : decode cX12_isFigure 7 = .ok (.bipush 57, 2) := by decide +kernel
theorem dX12_isFigure_9 : decode cX12_isFigure 9 = .ok (.if_icmp .gt 7, 3) := by decide +kernel
theorem dX12_isFigure_12 : decode cX12_isFigure 12 = .ok (.iconst 1, 1) := by decide +kernel
theorem dX12_isFigure_13 : decode cX12_isFigure 13 = .ok (.goto 4, 3) := by decide +kernel
theorem dX12_isFigure_16 : decode cX12_isFigure 16 = .ok (.iconst 0, 1) := by decide +kernel
theorem dX12_isFigure_17 : decode cX12_isFigure 17 = .ok (.ireturn, 1) := by decide +kernel
theorem dX12_isSign_0 : decode cX12_isSign 0 = .ok (.iload_n 0, 1) := by decide +kernel
theorem dX12_isSign_1 : decode cX12_isSign 1 = .ok (.tableswitch 129 35 62 #[127, 129, 129, 129, 129, 127, 127, 127, 127, 129, 127, 129, 127, 129, 129, 129, 129, 129, 129, 129, 129, 129, 129, 127, 127, 127, 127, 127], 127) := by decide +kernel
theorem dX12_isSign_128 : decode cX12_isSign 128 = .ok (.iconst 1, 1) := by decide +kernel
theorem dX12_isSign_129 : decode cX12_isSign 129 = .ok (.ireturn, 1) := by decide +kernel
theorem dX12_isSign_130 : decode cX12_isSign 130 = .ok (.iconst 0, 1) := by decide +kernel
theorem dX12_isSign_131 : decode cX12_isSign 131 = .ok (.ireturn, 1) := by decide +kernel
theorem dX12_nextToken_0 : decode cX12_nextToken 0 = .ok (.aload_n 0, 1) := by decide +kernel
theorem dX12_nextToken_1 : decode cX12_nextToken 1 = .ok (.aload_n 0, 1) := by decide +kernel
theorem dX12_nextToken_2 : decode cX12_nextToken 2 = .ok (.getfield 126, 3) := by decide +kernel
theorem dX12_nextToken_5 : decode cX12_nextToken 5 = .ok (.invokevirtual 129, 3) := by decide +kernel
theorem dX12_nextToken_8 : decode cX12_nextToken 8 = .ok (.bipush 32, 2) := by decide +kernel
theorem dX12_nextToken_10 : decode cX12_nextToken 10 = .ok (.if_icmp .eq 16, 3) := by decide +kernel
theorem dX12_nextToken_13 : decode cX12_nextToken 13 = .ok (.aload_n 0, 1) := by decide +kernel
theorem dX12_nextToken_14 : decode cX12_nextToken 14 = .ok (.aload_n 0, 1) := by decide +kernel
theorem dX12_nextToken_15 : decode cX12_nextToken 15 = .ok (.getfield 126, 3) := by decide +kernel
theorem dX12_nextToken_18 : decode cX12_nextToken 18 = .ok (.invokevirtual 129, 3) := by decide +kernel
theorem dX12_nextToken_21 : decode cX12_nextToken 21 = .ok (.bipush 10, 2) := by decide +kernel
theorem dX12_nextToken_23 : decode cX12_nextToken 23 = .ok (.if_icmp .ne 16, 3) := by decide +kernel
theorem dX12_nextToken_26 : decode cX12_nextToken 26 = .ok (.aload_n 0, 1) := by decide +kernel
theorem dX12_nextToken_27 : decode cX12_nextToken 27 = .ok (.dup, 1) := by decide +kernel
theorem dX12_nextToken_28 : decode cX12_nextToken 28 = .ok (.getfield 126, 3) := by decide +kernel
theorem dX12_nextToken_31 : decode cX12_nextToken 31 = .ok (.iconst 1, 1) := by decide +kernel
theorem dX12_nextToken_32 : decode cX12_nextToken 32 = .ok (.iadd, 1) := by decide +kernel
theorem dX12_nextToken_33 : decode cX12_nextToken 33 = .ok (.putfield 126, 3) := by decide +kernel
theorem dX12_nextToken_36 : decode cX12_nextToken 36 = .ok (.goto (-36), 3) := by decide +kernel
theorem dX12_nextToken_39 : decode cX12_nextToken 39 = .ok (.aload_n 0, 1) := by decide +kernel
theorem dX12_nextToken_40 : decode cX12_nextToken 40 = .ok (.aload_n 0, 1) := by decide +kernel
theorem dX12_nextToken_41 : decode cX12_nextToken 41 = .ok (.getfield 126, 3) := by decide +kernel
theorem dX12_nextToken_44 : decode cX12_nextToken 44 = .ok (.putfield 132, 3) := by decide +kernel
theorem dX12_nextToken_47 : decode cX12_nextToken 47 = .ok (.aload_n 0, 1) := by decide +kernel
theorem dX12_nextToken_48 : decode cX12_nextToken 48 = .ok (.aload_n 0, 1) := by decide +kernel
theorem dX12_nextToken_49 : decode cX12_nextToken 49 = .ok (.getfield 126, 3) := by decide +kernel
theorem dX12_nextToken_52 : decode cX12_nextToken 52 = .ok (.invokevirtual 129, 3) := by decide +kernel
theorem dX12_nextToken_55 : decode cX12_nextToken 55 = .ok (.istore_n 1, 1) := by decide +kernel
theorem dX12_nextToken_56 : decode cX12_nextToken 56 = .ok (.iload_n 1, 1) := by decide +kernel
theorem dX12_nextToken_57 : decode cX12_nextToken 57 = .ok (.ifCond .ge 11, 3) := by decide +kernel
theorem dX12_nextToken_60 : decode cX12_nextToken 60 = .ok (.aload_n 0, 1) := by decide +kernel
theorem dX12_nextToken_61 : decode cX12_nextToken 61 = .ok (.iconst 0, 1) := by decide +kernel
theorem dX12_nextToken_62 : decode cX12_nextToken 62 = .ok (.putfield 135, 3) := by decide +kernel
theorem dX12_nextToken_65 : decode cX12_nextToken 65 = .ok (.goto 245, 3) := by decide +kernel
theorem dX12_nextToken_68 : decode cX12_nextToken 68 = .ok (.iload_n 1, 1) := by decide +kernel
theorem dX12_nextToken_69 : decode cX12_nextToken 69 = .ok (.invokestatic 138, 3) := by decide +kernel
theorem dX12_nextToken_72 : decode cX12_nextToken 72 = .ok (.ifCond .eq 79, 3) := by decide +kernel
theorem dX12_nextToken_75 : decode cX12_nextToken 75 = .ok (.aload_n 0, 1) := by decide +kernel
theorem dX12_nextToken_76 : decode cX12_nextToken 76 = .ok (.iconst 1, 1) := by decide +kernel
theorem dX12_nextToken_77 : decode cX12_nextToken 77 = .ok (.putfield 135, 3) := by decide +kernel
theorem dX12_nextToken_80 : decode cX12_nextToken 80 = .ok (.aload_n 0, 1) := by decide +kernel
theorem dX12_nextToken_81 : decode cX12_nextToken 81 = .ok (.iconst 0, 1) := by decide +kernel
theorem dX12_nextToken_82 : decode cX12_nextToken 82 = .ok (.putfield 141, 3) := by decide +kernel
theorem dX12_nextToken_85 : decode cX12_nextToken 85 = .ok (.aload_n 0, 1) := by decide +kernel
theorem dX12_nextToken_86 : decode cX12_nextToken 86 = .ok (.aload_n 0, 1) := by decide +kernel
theorem dX12_nextToken_87 : decode cX12_nextToken 87 = .ok (.getfield 126, 3) := by decide +kernel
theorem dX12_nextToken_90 : decode cX12_nextToken 90 = .ok (.invokevirtual 129, 3) := by decide +kernel
theorem dX12_nextToken_93 : decode cX12_nextToken 93 = .ok (.invokestatic 138, 3) := by decide +kernel
theorem dX12_nextToken_96 : decode cX12_nextToken 96 = .ok (.ifCond .eq 214, 3) := by decide +kernel
theorem dX12_nextToken_99 : decode cX12_nextToken 99 = .ok (.aload_n 0, 1) := by decide +kernel
theorem dX12_nextToken_100 : decode cX12_nextToken 100 = .ok (.aload_n 0, 1) := by decide +kernel
theorem dX12_nextToken_101 : decode cX12_nextToken 101 = .ok (.getfield 141, 3) := by decide +kernel
theorem dX12_nextToken_104 : decode cX12_nextToken 104 = .ok (.ldc 144, 2) := by decide +kernel
theorem dX12_nextToken_106 : decode cX12_nextToken 106 = .ok (.if_icmp .le 10, 3) := by decide +kernel
theorem dX12_nextToken_109 : decode cX12_nextToken 109 = .ok (.aload_n 0, 1) := by decide +kernel
theorem dX12_nextToken_110 : decode cX12_nextToken 110 = .ok (.getfield 141, 3) := by decide +kernel
theorem dX12_nextToken_113 : decode cX12_nextToken 113 = .ok (.goto 22, 3) := by decide +kernel
theorem dX12_nextToken_116 : decode cX12_nextToken 116 = .ok (.bipush 10, 2) := by decide +kernel
theorem dX12_nextToken_118 : decode cX12_nextToken 118 = .ok (.aload_n 0, 1) := by decide +kernel
theorem dX12_nextToken_119 : decode cX12_nextToken 119 = .ok (.getfield 141, 3) := by decide +kernel
theorem dX12_nextToken_122 : decode cX12_nextToken 122 = .ok (.imul, 1) := by decide +kernel
theorem dX12_nextToken_123 : decode cX12_nextToken 123 = .ok (.aload_n 0, 1) := by decide +kernel
theorem dX12_nextToken_124 : decode cX12_nextToken 124 = .ok (.aload_n 0, 1) := by decide +kernel
theorem dX12_nextToken_125 : decode cX12_nextToken 125 = .ok (.getfield 126, 3) := by decide +kernel
theorem dX12_nextToken_128 : decode cX12_nextToken 128 = .ok (.invokevirtual 129, 3) := by decide +kernel
theorem dX12_nextToken_131 : decode cX12_nextToken 131 = .ok (.iadd, 1) := by decide +kernel
theorem dX12_nextToken_132 : decode cX12_nextToken 132 = .ok (.bipush 48, 2) := by decide +kernel
theorem dX12_nextToken_134 : decode cX12_nextToken 134 = .ok (.isub, 1) := by decide +kernel
theorem dX12_nextToken_135 : decode cX12_nextToken 135 = .ok (.putfield 141, 3) := by decide +kernel
theorem dX12_nextToken_138 : decode cX12_nextToken 138 = .ok (.aload_n 0, 1) := by decide +kernel
theorem dX12_nextToken_139 : decode cX12_nextToken 139 = .ok (.dup, 1) := by decide +kernel
theorem dX12_nextToken_140 : decode cX12_nextToken 140 = .ok (.getfield 126, 3) := by decide +kernel
theorem dX12_nextToken_143 : decode cX12_nextToken 143 = .ok (.iconst 1, 1) := by decide +kernel
theorem dX12_nextToken_144 : decode cX12_nextToken 144 = .ok (.iadd, 1) := by decide +kernel
theorem dX12_nextToken_145 : decode cX12_nextToken 145 = .ok (.putfield 126, 3) := by decide +kernel
theorem dX12_nextToken_148 : decode cX12_nextToken 148 = .ok (.goto (-63), 3) := by decide +kernel
theorem dX12_nextToken_151 : decode cX12_nextToken 151 = .ok (.iload_n 1, 1) := by decide +kernel
theorem dX12_nextToken_152 : decode cX12_nextToken 152 = .ok (.invokestatic 145, 3) := by decide +kernel
theorem dX12_nextToken_155 : decode cX12_nextToken 155 = .ok (.ifCond .eq 79, 3) := by decide +kernel
theorem dX12_nextToken_158 : decode cX12_nextToken 158 = .ok (.aload_n 0, 1) := by decide +kernel
theorem dX12_nextToken_159 : decode cX12_nextToken 159 = .ok (.iconst 2, 1) := by decide +kernel
theorem dX12_nextToken_160 : decode cX12_nextToken 160 = .ok (.putfield 135, 3) := by decide +kernel
theorem dX12_nextToken_163 : decode cX12_nextToken 163 = .ok (.aload_n 0, 1) := by decide +kernel
theorem dX12_nextToken_164 : decode cX12_nextToken 164 = .ok (.lconst 0, 1) := by decide +kernel
theorem dX12_nextToken_165 : decode cX12_nextToken 165 = .ok (.putfield 148, 3) := by decide +kernel
theorem dX12_nextToken_168 : decode cX12_nextToken 168 = .ok (.aload_n 0, 1) := by decide +kernel
theorem dX12_nextToken_169 : decode cX12_nextToken 169 = .ok (.aload_n 0, 1) := by decide +kernel
theorem dX12_nextToken_170 : decode cX12_nextToken 170 = .ok (.getfield 126, 3) := by decide +kernel
theorem dX12_nextToken_173 : decode cX12_nextToken 173 = .ok (.invokevirtual 129, 3) := by decide +kernel
theorem dX12_nextToken_176 : decode cX12_nextToken 176 = .ok (.invokestatic 145, 3) := by decide +kernel
theorem dX12_nextToken_179 : decode cX12_nextToken 179 = .ok (.ifCond .eq 131, 3) := by decide +kernel
theorem dX12_nextToken_182 : decode cX12_nextToken 182 = .ok (.aload_n 0, 1) := by decide +kernel
theorem dX12_nextToken_183 : decode cX12_nextToken 183 = .ok (.aload_n 0, 1) := by decide +kernel
theorem dX12_nextToken_184 : decode cX12_nextToken 184 = .ok (.getfield 148, 3) := by decide +kernel
theorem dX12_nextToken_187 : decode cX12_nextToken 187 = .ok (.bipush 48, 2) := by decide +kernel
theorem dX12_nextToken_189 : decode cX12_nextToken 189 = .ok (.lshr, 1) := by decide +kernel
theorem dX12_nextToken_190 : decode cX12_nextToken 190 = .ok (.lconst 0, 1) := by decide +kernel
theorem dX12_nextToken_191 : decode cX12_nextToken 191 = .ok (.lcmp, 1) := by decide +kernel
theorem dX12_nextToken_192 : decode cX12_nextToken 192 = .ok (.ifCond .eq 9, 3) := by decide +kernel
theorem dX12_nextToken_195 : decode cX12_nextToken 195 = .ok (.ldc2_w 152, 3) := by decide +kernel
theorem dX12_nextToken_198 : decode cX12_nextToken 198 = .ok (.goto 20, 3) := by decide +kernel
theorem dX12_nextToken_201 : decode cX12_nextToken 201 = .ok (.aload_n 0, 1) := by decide +kernel
theorem dX12_nextToken_202 : decode cX12_nextToken 202 = .ok (.getfield 148, 3) := by decide +kernel
theorem dX12_nextToken_205 : decode cX12_nextToken 205 = .ok (.bipush 8, 2) := by decide +kernel
theorem dX12_nextToken_207 : decode cX12_nextToken 207 = .ok (.lshl, 1) := by decide +kernel
theorem dX12_nextToken_208 : decode cX12_nextToken 208 = .ok (.aload_n 0, 1) := by decide +kernel
theorem dX12_nextToken_209 : decode cX12_nextToken 209 = .ok (.aload_n 0, 1) := by decide +kernel
theorem dX12_nextToken_210 : decode cX12_nextToken 210 = .ok (.getfield 126, 3) := by decide +kernel
theorem dX12_nextToken_213 : decode cX12_nextToken 213 = .ok (.invokevirtual 129, 3) := by decide +kernel
theorem dX12_nextToken_216 : decode cX12_nextToken 216 = .ok (.i2l, 1) := by decide +kernel
theorem dX12_nextToken_217 : decode cX12_nextToken 217 = .ok (.lor, 1) := by decide +kernel
theorem dX12_nextToken_218 : decode cX12_nextToken 218 = .ok (.putfield 148, 3) := by decide +kernel
theorem dX12_nextToken_221 : decode cX12_nextToken 221 = .ok (.aload_n 0, 1) := by decide +kernel
theorem dX12_nextToken_222 : decode cX12_nextToken 222 = .ok (.dup, 1) := by decide +kernel
theorem dX12_nextToken_223 : decode cX12_nextToken 223 = .ok (.getfield 126, 3) := by decide +kernel
theorem dX12_nextToken_226 : decode cX12_nextToken 226 = .ok (.iconst 1, 1) := by decide +kernel
theorem dX12_nextToken_227 : decode cX12_nextToken 227 = .ok (.iadd, 1) := by decide +kernel
theorem dX12_nextToken_228 : decode cX12_nextToken 228 = .ok (.putfield 126, 3) := by decide +kernel
theorem dX12_nextToken_231 : decode cX12_nextToken 231 = .ok (.goto (-63), 3) := by decide +kernel
theorem dX12_nextToken_234 : decode cX12_nextToken 234 = .ok (.aload_n 0, 1) := by decide +kernel
theorem dX12_nextToken_235 : decode cX12_nextToken 235 = .ok (.iload_n 1, 1) := by decide +kernel
theorem dX12_nextToken_236 : decode cX12_nextToken 236 = .ok (.invokestatic 154, 3) := by decide +kernel
theorem dX12_nextToken_239 : decode cX12_nextToken 239 = .ok (.ifCond .eq 7, 3) := by decide +kernel
theorem dX12_nextToken_242 : decode cX12_nextToken 242 = .ok (.iload_n 1, 1) := by decide +kernel
theorem dX12_nextToken_243 : decode cX12_nextToken 243 = .ok (.goto 4, 3) := by decide +kernel
theorem dX12_nextToken_246 : decode cX12_nextToken 246 = .ok (.iconst 3, 1) := by decide +kernel
theorem dX12_nextToken_247 : decode cX12_nextToken 247 = .ok (.putfield 135, 3) := by decide +kernel
theorem dX12_nextToken_250 : decode cX12_nextToken 250 = .ok (.aload_n 0, 1) := by decide +kernel
theorem dX12_nextToken_251 : decode cX12_nextToken 251 = .ok (.dup, 1) := by decide +kernel
theorem dX12_nextToken_252 : decode cX12_nextToken 252 = .ok (.getfield 126, 3) := by decide +kernel
theorem dX12_nextToken_255 : decode cX12_nextToken 255 = .ok (.iconst 1, 1) := by decide +kernel
theorem dX12_nextToken_256 : decode cX12_nextToken 256 = .ok (.iadd, 1) := by decide +kernel
theorem dX12_nextToken_257 : decode cX12_nextToken 257 = .ok (.putfield 126, 3) := by decide +kernel
theorem dX12_nextToken_260 : decode cX12_nextToken 260 = .ok (.iload_n 1, 1) := by decide +kernel
theorem dX12_nextToken_261 : decode cX12_nextToken 261 = .ok (.bipush 60, 2) := by decide +kernel
theorem dX12_nextToken_263 : decode cX12_nextToken 263 = .ok (.if_icmp .eq 9, 3) := by decide +kernel
theorem dX12_nextToken_266 : decode cX12_nextToken 266 = .ok (.iload_n 1, 1) := by decide +kernel
theorem dX12_nextToken_267 : decode cX12_nextToken 267 = .ok (.bipush 62, 2) := by decide +kernel
theorem dX12_nextToken_269 : decode cX12_nextToken 269 = .ok (.if_icmp .ne 41, 3) := by decide +kernel
theorem dX12_nextToken_272 : decode cX12_nextToken 272 = .ok (.aload_n 0, 1) := by decide +kernel
theorem dX12_nextToken_273 : decode cX12_nextToken 273 = .ok (.aload_n 0, 1) := by decide +kernel
theorem dX12_nextToken_274 : decode cX12_nextToken 274 = .ok (.getfield 126, 3) := by decide +kernel
theorem dX12_nextToken_277 : decode cX12_nextToken 277 = .ok (.invokevirtual 129, 3) := by decide +kernel
theorem dX12_nextToken_280 : decode cX12_nextToken 280 = .ok (.bipush 61, 2) := by decide +kernel
theorem dX12_nextToken_282 : decode cX12_nextToken 282 = .ok (.if_icmp .ne 28, 3) := by decide +kernel
theorem dX12_nextToken_285 : decode cX12_nextToken 285 = .ok (.aload_n 0, 1) := by decide +kernel
theorem dX12_nextToken_286 : decode cX12_nextToken 286 = .ok (.iload_n 1, 1) := by decide +kernel
theorem dX12_nextToken_287 : decode cX12_nextToken 287 = .ok (.bipush 60, 2) := by decide +kernel
theorem dX12_nextToken_289 : decode cX12_nextToken 289 = .ok (.if_icmp .ne 7, 3) := by decide +kernel
theorem dX12_nextToken_292 : decode cX12_nextToken 292 = .ok (.iconst 4, 1) := by decide +kernel
theorem dX12_nextToken_293 : decode cX12_nextToken 293 = .ok (.goto 4, 3) := by decide +kernel
theorem dX12_nextToken_296 : decode cX12_nextToken 296 = .ok (.iconst 5, 1) := by decide +kernel
theorem dX12_nextToken_297 : decode cX12_nextToken 297 = .ok (.putfield 135, 3) := by decide +kernel
theorem dX12_nextToken_300 : decode cX12_nextToken 300 = .ok (.aload_n 0, 1) := by decide +kernel
theorem dX12_nextToken_301 : decode cX12_nextToken 301 = .ok (.dup, 1) := by decide +kernel
theorem dX12_nextToken_302 : decode cX12_nextToken 302 = .ok (.getfield 126, 3) := by decide +kernel
theorem dX12_nextToken_305 : decode cX12_nextToken 305 = .ok (.iconst 1, 1) := by decide +kernel
theorem dX12_nextToken_306 : decode cX12_nextToken 306 = .ok (.iadd, 1) := by decide +kernel
theorem dX12_nextToken_307 : decode cX12_nextToken 307 = .ok (.putfield 126, 3) := by decide +kernel
theorem dX12_nextToken_310 : decode cX12_nextToken 310 = .ok (.return_, 1) := by decide +kernel
theorem dX12_w2_0 : decode cX12_w2 0 = .ok (.iload_n 0, 1) := by decide +kernel
theorem dX12_w2_1 : decode cX12_w2 1 = .ok (.i2l, 1) := by decide +kernel
theorem dX12_w2_2 : decode cX12_w2 2 = .ok (.bipush 8, 2) := by decide +kernel
theorem dX12_w2_4 : decode cX12_w2 4 = .ok (.lshl, 1) := by decide +kernel
theorem dX12_w2_5 : decode cX12_w2 5 = .ok (.iload_n 1, 1) := by decide +kernel
theorem dX12_w2_6 : decode cX12_w2 6 = .ok (.i2l, 1) := by decide +kernel
theorem dX12_w2_7 : decode cX12_w2 7 = .ok (.lor, 1) := by decide +kernel
theorem dX12_w2_8 : decode cX12_w2 8 = .ok (.lreturn, 1) := by decide +kernel
theorem dX12_w3_0 : decode cX12_w3 0 = .ok (.iload_n 0, 1) := by decide +kernel
theorem dX12_w3_1 : decode cX12_w3 1 = .ok (.iload_n 1, 1) := by decide +kernel
theorem dX12_w3_2 : decode cX12_w3 2 = .ok (.invokestatic 157, 3) := by decide +kernel
theorem dX12_w3_5 : decode cX12_w3 5 = .ok (.bipush 8, 2) := by decide +kernel
theorem dX12_w3_7 : decode cX12_w3 7 = .ok (.lshl, 1) := by decide +kernel
theorem dX12_w3_8 : decode cX12_w3 8 = .ok (.iload_n 2, 1) := by decide +kernel
theorem dX12_w3_9 : decode cX12_w3 9 = .ok (.i2l, 1) := by decide +kernel
theorem dX12_w3_10 : decode cX12_w3 10 = .ok (.lor, 1) := by decide +kernel
theorem dX12_w3_11 : decode cX12_w3 11 = .ok (.lreturn, 1) := by decide +kernel
theorem dX12_w4_0 : decode cX12_w4 0 = .ok (.iload_n 0, 1) := by decide +kernel
theorem dX12_w4_1 : decode cX12_w4 1 = .ok (.iload_n 1, 1) := by decide +kernel
theorem dX12_w4_2 : decode cX12_w4 2 = .ok (.iload_n 2, 1) := by decide +kernel
theorem dX12_w4_3 : decode cX12_w4 3 = .ok (.invokestatic 161, 3) := by decide +kernel
theorem dX12_w4_6 : decode cX12_w4 6 = .ok (.bipush 8, 2) := by decide +kernel
theorem dX12_w4_8 : decode cX12_w4 8 = .ok (.lshl, 1) := by decide +kernel
theorem dX12_w4_9 : decode cX12_w4 9 = .ok (.iload_n 3, 1) := by decide +kernel
theorem dX12_w4_10 : decode cX12_w4 10 = .ok (.i2l, 1) := by decide +kernel
theorem dX12_w4_11 : decode cX12_w4 11 = .ok (.lor, 1) := by decide +kernel
theorem dX12_w4_12 : decode cX12_w4 12 = .ok (.lreturn, 1) := by decide +kernel
theorem dX12_w5_0 : decode cX12_w5 0 = .ok (.iload_n 0, 1) := by decide +kernel
theorem dX12_w5_1 : decode cX12_w5 1 = .ok (.iload_n 1, 1) := by decide +kernel
theorem dX12_w5_2 : decode cX12_w5 2 = .ok (.iload_n 2, 1) := by decide +kernel
theorem dX12_w5_3 : decode cX12_w5 3 = .ok (.iload_n 3, 1) := by decide +kernel
theorem dX12_w5_4 : decode cX12_w5 4 = .ok (.invokestatic 165, 3) := by decide +kernel
theorem dX12_w5_7 : decode cX12_w5 7 = .ok (.bipush 8, 2) := by decide +kernel
theorem dX12_w5_9 : decode cX12_w5 9 = .ok (.lshl, 1) := by decide +kernel
theorem dX12_w5_10 : decode cX12_w5 10 = .ok (.iload 4, 2) := by decide +kernel
theorem dX12_w5_12 : decode cX12_w5 12 = .ok (.i2l, 1) := by decide +kernel
theorem dX12_w5_13 : decode cX12_w5 13 = .ok (.lor, 1) := by decide +kernel
theorem dX12_w5_14 : decode cX12_w5 14 = .ok (.lreturn, 1) := by decide +kernel
theorem dX12_w6_0 : decode cX12_w6 0 = .ok (.iload_n 0, 1) := by decide +kernel
theorem dX12_w6_1 : decode cX12_w6 1 = .ok (.iload_n 1, 1) := by decide +kernel
theorem dX12_w6_2 : decode cX12_w6 2 = .ok (.iload_n 2, 1) := by decide +kernel
theorem dX12_w6_3 : decode cX12_w6 3 = .ok (.iload_n 3, 1) := by decide +kernel
theorem dX12_w6_4 : decode cX12_w6 4 = .ok (.iload 4, 2) := by decide +kernel
theorem dX12_w6_6 : decode cX12_w6 6 = .ok (.invokestatic 169, 3) := by decide +kernel
theorem dX12_w6_9 : decode cX12_w6 9 = .ok (.bipush 8, 2) := by decide +kernel
theorem dX12_w6_11 : decode cX12_w6 11 = .ok (.lshl, 1) := by decide +kernel
theorem dX12_w6_12 : decode cX12_w6 12 = .ok (.iload 5, 2) := by decide +kernel
theorem dX12_w6_14 : decode cX12_w6 14 = .ok (.i2l, 1) := by decide +kernel
theorem dX12_w6_15 : decode cX12_w6 15 = .ok (.lor, 1) := by decide +kernel
theorem dX12_w6_16 : decode cX12_w6 16 = .ok (.lreturn, 1) := by decide +kernel
theorem dX12_isWord_0 : decode cX12_isWord 0 = .ok (.aload_n 0, 1) := by decide +kernel
theorem dX12_isWord_1 : decode cX12_isWord 1 = .ok (.getfield 135, 3) := by decide +kernel
theorem dX12_isWord_4 : decode cX12_isWord 4 = .ok (.iconst 2, 1) := by decide +kernel
theorem dX12_isWord_5 : decode cX12_isWord 5 = .ok (.if_icmp .ne 16, 3) := by decide +kernel
theorem dX12_isWord_8 : decode cX12_isWord 8 = .ok (.aload_n 0, 1) := by decide +kernel
theorem dX12_isWord_9 : decode cX12_isWord 9 = .ok (.getfield 148, 3) := by decide +kernel
theorem dX12_isWord_12 : decode cX12_isWord 12 = .ok (.lload_n 1, 1) := by decide +kernel
theorem dX12_isWord_13 : decode cX12_isWord 13 = .ok (.lcmp, 1) := by decide +kernel
theorem dX12_isWord_14 : decode cX12_isWord 14 = .ok (.ifCond .ne 7, 3) := by decide +kernel
theorem dX12_isWord_17 : decode cX12_isWord 17 = .ok (.iconst 1, 1) := by decide +kernel
theorem dX12_isWord_18 : decode cX12_isWord 18 = .ok (.goto 4, 3) := by decide +kernel
theorem dX12_isWord_21 : decode cX12_isWord 21 = .ok (.iconst 0, 1) := by decide +kernel
theorem dX12_isWord_22 : decode cX12_isWord 22 = .ok (.ireturn, 1) := by decide +kernel
theorem dX12_emit_0 : decode cX12_emit 0 = .ok (.aload_n 0, 1) := by decide +kernel
theorem dX12_emit_1 : decode cX12_emit 1 = .ok (.getfield 16, 3) := by decide +kernel
theorem dX12_emit_4 : decode cX12_emit 4 = .ok (.aload_n 0, 1) := by decide +kernel
theorem dX12_emit_5 : decode cX12_emit 5 = .ok (.getfield 173, 3) := by decide +kernel
theorem dX12_emit_8 : decode cX12_emit 8 = .ok (.bipush 73, 2) := by decide +kernel
theorem dX12_emit_10 : decode cX12_emit 10 = .ok (.iadd, 1) := by decide +kernel
theorem dX12_emit_11 : decode cX12_emit 11 = .ok (.iconst 2, 1) := by decide +kernel
theorem dX12_emit_12 : decode cX12_emit 12 = .ok (.aload_n 0, 1) := by decide +kernel
theorem dX12_emit_13 : decode cX12_emit 13 = .ok (.getfield 176, 3) := by decide +kernel
theorem dX12_emit_16 : decode cX12_emit 16 = .ok (.imul, 1) := by decide +kernel
theorem dX12_emit_17 : decode cX12_emit 17 = .ok (.iadd, 1) := by decide +kernel
theorem dX12_emit_18 : decode cX12_emit 18 = .ok (.iload_n 1, 1) := by decide +kernel
theorem dX12_emit_19 : decode cX12_emit 19 = .ok (.iastore, 1) := by decide +kernel
theorem dX12_emit_20 : decode cX12_emit 20 = .ok (.aload_n 0, 1) := by decide +kernel
theorem dX12_emit_21 : decode cX12_emit 21 = .ok (.getfield 16, 3) := by decide +kernel
theorem dX12_emit_24 : decode cX12_emit 24 = .ok (.aload_n 0, 1) := by decide +kernel
theorem dX12_emit_25 : decode cX12_emit 25 = .ok (.getfield 173, 3) := by decide +kernel
theorem dX12_emit_28 : decode cX12_emit 28 = .ok (.bipush 73, 2) := by decide +kernel
theorem dX12_emit_30 : decode cX12_emit 30 = .ok (.iadd, 1) := by decide +kernel
theorem dX12_emit_31 : decode cX12_emit 31 = .ok (.iconst 2, 1) := by decide +kernel
theorem dX12_emit_32 : decode cX12_emit 32 = .ok (.aload_n 0, 1) := by decide +kernel
theorem dX12_emit_33 : decode cX12_emit 33 = .ok (.getfield 176, 3) := by decide +kernel
theorem dX12_emit_36 : decode cX12_emit 36 = .ok (.imul, 1) := by decide +kernel
theorem dX12_emit_37 : decode cX12_emit 37 = .ok (.iadd, 1) := by decide +kernel
theorem dX12_emit_38 : decode cX12_emit 38 = .ok (.iconst 1, 1) := by decide +kernel
theorem dX12_emit_39 : decode cX12_emit 39 = .ok (.iadd, 1) := by decide +kernel
theorem dX12_emit_40 : decode cX12_emit 40 = .ok (.iload_n 2, 1) := by decide +kernel
theorem dX12_emit_41 : decode cX12_emit 41 = .ok (.iastore, 1) := by decide +kernel
theorem dX12_emit_42 : decode cX12_emit 42 = .ok (.aload_n 0, 1) := by decide +kernel
theorem dX12_emit_43 : decode cX12_emit 43 = .ok (.dup, 1) := by decide +kernel
theorem dX12_emit_44 : decode cX12_emit 44 = .ok (.getfield 176, 3) := by decide +kernel
theorem dX12_emit_47 : decode cX12_emit 47 = .ok (.iconst 1, 1) := by decide +kernel
theorem dX12_emit_48 : decode cX12_emit 48 = .ok (.iadd, 1) := by decide +kernel
theorem dX12_emit_49 : decode cX12_emit 49 = .ok (.putfield 176, 3) := by decide +kernel
theorem dX12_emit_52 : decode cX12_emit 52 = .ok (.return_, 1) := by decide +kernel
theorem dX12_nameOf_0 : decode cX12_nameOf 0 = .ok (.aload_n 0, 1) := by decide +kernel
theorem dX12_nameOf_1 : decode cX12_nameOf 1 = .ok (.getfield 135, 3) := by decide +kernel
theorem dX12_nameOf_4 : decode cX12_nameOf 4 = .ok (.iconst 2, 1) := by decide +kernel
theorem dX12_nameOf_5 : decode cX12_nameOf 5 = .ok (.if_icmp .eq 5, 3) := by decide +kernel
theorem dX12_nameOf_8 : decode cX12_nameOf 8 = .ok (.iconst (-1), 1) := by decide +kernel
theorem dX12_nameOf_9 : decode cX12_nameOf 9 = .ok (.ireturn, 1) := by decide +kernel
theorem dX12_nameOf_10 : decode cX12_nameOf 10 = .ok (.aload_n 0, 1) := by decide +kernel
theorem dX12_nameOf_11 : decode cX12_nameOf 11 = .ok (.getfield 148, 3) := by decide +kernel
theorem dX12_nameOf_14 : decode cX12_nameOf 14 = .ok (.bipush 109, 2) := by decide +kernel
theorem dX12_nameOf_16 : decode cX12_nameOf 16 = .ok (.bipush 105, 2) := by decide +kernel
theorem dX12_nameOf_18 : decode cX12_nameOf 18 = .ok (.bipush 110, 2) := by decide +kernel
theorem dX12_nameOf_20 : decode cX12_nameOf 20 = .ok (.bipush 117, 2) := by decide +kernel
theorem dX12_nameOf_22 : decode cX12_nameOf 22 = .ok (.bipush 116, 2) := by decide +kernel
theorem dX12_nameOf_24 : decode cX12_nameOf 24 = .ok (.bipush 101, 2) := by decide +kernel
theorem dX12_nameOf_26 : decode cX12_nameOf 26 = .ok (.invokestatic 179, 3) := by decide +kernel
theorem dX12_nameOf_29 : decode cX12_nameOf 29 = .ok (.lcmp, 1) := by decide +kernel
theorem dX12_nameOf_30 : decode cX12_nameOf 30 = .ok (.ifCond .ne 5, 3) := by decide +kernel
theorem dX12_nameOf_33 : decode cX12_nameOf 33 = .ok (.iconst 0, 1) := by decide +kernel
theorem dX12_nameOf_34 : decode cX12_nameOf 34 = .ok (.ireturn, 1) := by decide +kernel
theorem dX12_nameOf_35 : decode cX12_nameOf 35 = .ok (.aload_n 0, 1) := by decide +kernel
theorem dX12_nameOf_36 : decode cX12_nameOf 36 = .ok (.getfield 148, 3) := by decide +kernel
theorem dX12_nameOf_39 : decode cX12_nameOf 39 = .ok (.bipush 119, 2) := by decide +kernel
theorem dX12_nameOf_41 : decode cX12_nameOf 41 = .ok (.bipush 104, 2) := by decide +kernel
theorem dX12_nameOf_43 : decode cX12_nameOf 43 = .ok (.bipush 111, 2) := by decide +kernel
theorem dX12_nameOf_45 : decode cX12_nameOf 45 = .ok (.invokestatic 161, 3) := by decide +kernel
theorem dX12_nameOf_48 : decode cX12_nameOf 48 = .ok (.lcmp, 1) := by decide +kernel
theorem dX12_nameOf_49 : decode cX12_nameOf 49 = .ok (.ifCond .ne 5, 3) := by decide +kernel
theorem dX12_nameOf_52 : decode cX12_nameOf 52 = .ok (.iconst 1, 1) := by decide +kernel
theorem dX12_nameOf_53 : decode cX12_nameOf 53 = .ok (.ireturn, 1) := by decide +kernel
theorem dX12_nameOf_54 : decode cX12_nameOf 54 = .ok (.aload_n 0, 1) := by decide +kernel
theorem dX12_nameOf_55 : decode cX12_nameOf 55 = .ok (.getfield 148, 3) := by decide +kernel
theorem dX12_nameOf_58 : decode cX12_nameOf 58 = .ok (.bipush 119, 2) := by decide +kernel
theorem dX12_nameOf_60 : decode cX12_nameOf 60 = .ok (.bipush 101, 2) := by decide +kernel
theorem dX12_nameOf_62 : decode cX12_nameOf 62 = .ok (.bipush 116, 2) := by decide +kernel
theorem dX12_nameOf_64 : decode cX12_nameOf 64 = .ok (.invokestatic 161, 3) := by decide +kernel
theorem dX12_nameOf_67 : decode cX12_nameOf 67 = .ok (.lcmp, 1) := by decide +kernel
theorem dX12_nameOf_68 : decode cX12_nameOf 68 = .ok (.ifCond .ne 5, 3) := by decide +kernel
theorem dX12_nameOf_71 : decode cX12_nameOf 71 = .ok (.iconst 2, 1) := by decide +kernel
theorem dX12_nameOf_72 : decode cX12_nameOf 72 = .ok (.ireturn, 1) := by decide +kernel
theorem dX12_nameOf_73 : decode cX12_nameOf 73 = .ok (.aload_n 0, 1) := by decide +kernel
theorem dX12_nameOf_74 : decode cX12_nameOf 74 = .ok (.getfield 148, 3) := by decide +kernel
theorem dX12_nameOf_77 : decode cX12_nameOf 77 = .ok (.bipush 98, 2) := by decide +kernel
theorem dX12_nameOf_79 : decode cX12_nameOf 79 = .ok (.bipush 101, 2) := by decide +kernel
theorem dX12_nameOf_81 : decode cX12_nameOf 81 = .ok (.bipush 101, 2) := by decide +kernel
theorem dX12_nameOf_83 : decode cX12_nameOf 83 = .ok (.bipush 110, 2) := by decide +kernel
theorem dX12_nameOf_85 : decode cX12_nameOf 85 = .ok (.invokestatic 165, 3) := by decide +kernel
theorem dX12_nameOf_88 : decode cX12_nameOf 88 = .ok (.lcmp, 1) := by decide +kernel
theorem dX12_nameOf_89 : decode cX12_nameOf 89 = .ok (.ifCond .ne 5, 3) := by decide +kernel
theorem dX12_nameOf_92 : decode cX12_nameOf 92 = .ok (.iconst 3, 1) := by decide +kernel
theorem dX12_nameOf_93 : decode cX12_nameOf 93 = .ok (.ireturn, 1) := by decide +kernel
theorem dX12_nameOf_94 : decode cX12_nameOf 94 = .ok (.aload_n 0, 1) := by decide +kernel
theorem dX12_nameOf_95 : decode cX12_nameOf 95 = .ok (.getfield 148, 3) := by decide +kernel
theorem dX12_nameOf_98 : decode cX12_nameOf 98 = .ok (.bipush 97, 2) := by decide +kernel
theorem dX12_nameOf_100 : decode cX12_nameOf 100 = .ok (.bipush 116, 2) := by decide +kernel
theorem dX12_nameOf_102 : decode cX12_nameOf 102 = .ok (.invokestatic 157, 3) := by decide +kernel
theorem dX12_nameOf_105 : decode cX12_nameOf 105 = .ok (.lcmp, 1) := by decide +kernel
theorem dX12_nameOf_106 : decode cX12_nameOf 106 = .ok (.ifCond .ne 5, 3) := by decide +kernel
theorem dX12_nameOf_109 : decode cX12_nameOf 109 = .ok (.iconst 4, 1) := by decide +kernel
theorem dX12_nameOf_110 : decode cX12_nameOf 110 = .ok (.ireturn, 1) := by decide +kernel
theorem dX12_nameOf_111 : decode cX12_nameOf 111 = .ok (.aload_n 0, 1) := by decide +kernel
theorem dX12_nameOf_112 : decode cX12_nameOf 112 = .ok (.getfield 148, 3) := by decide +kernel
theorem dX12_nameOf_115 : decode cX12_nameOf 115 = .ok (.bipush 110, 2) := by decide +kernel
theorem dX12_nameOf_117 : decode cX12_nameOf 117 = .ok (.bipush 101, 2) := by decide +kernel
theorem dX12_nameOf_119 : decode cX12_nameOf 119 = .ok (.bipush 101, 2) := by decide +kernel
theorem dX12_nameOf_121 : decode cX12_nameOf 121 = .ok (.bipush 100, 2) := by decide +kernel
theorem dX12_nameOf_123 : decode cX12_nameOf 123 = .ok (.invokestatic 165, 3) := by decide +kernel
theorem dX12_nameOf_126 : decode cX12_nameOf 126 = .ok (.lcmp, 1) := by decide +kernel
theorem dX12_nameOf_127 : decode cX12_nameOf 127 = .ok (.ifCond .ne 5, 3) := by decide +kernel
theorem dX12_nameOf_130 : decode cX12_nameOf 130 = .ok (.iconst 5, 1) := by decide +kernel
theorem dX12_nameOf_131 : decode cX12_nameOf 131 = .ok (.ireturn, 1) := by decide +kernel
theorem dX12_nameOf_132 : decode cX12_nameOf 132 = .ok (.aload_n 0, 1) := by decide +kernel
theorem dX12_nameOf_133 : decode cX12_nameOf 133 = .ok (.getfield 148, 3) := by decide +kernel
theorem dX12_nameOf_136 : decode cX12_nameOf 136 = .ok (.bipush 119, 2) := by decide +kernel
theorem dX12_nameOf_138 : decode cX12_nameOf 138 = .ok (.bipush 97, 2) := by decide +kernel
theorem dX12_nameOf_140 : decode cX12_nameOf 140 = .ok (.bipush 116, 2) := by decide +kernel
theorem dX12_nameOf_142 : decode cX12_nameOf 142 = .ok (.bipush 101, 2) := by decide +kernel
theorem dX12_nameOf_144 : decode cX12_nameOf 144 = .ok (.bipush 114, 2) := by decide +kernel
theorem dX12_nameOf_146 : decode cX12_nameOf 146 = .ok (.invokestatic 169, 3) := by decide +kernel
theorem dX12_nameOf_149 : decode cX12_nameOf 149 = .ok (.lcmp, 1) := by decide +kernel
theorem dX12_nameOf_150 : decode cX12_nameOf 150 = .ok (.ifCond .ne 8, 3) := by decide +kernel
theorem dX12_nameOf_153 : decode cX12_nameOf 153 = .ok (.bipush 6, 2) := by decide +kernel
theorem dX12_nameOf_155 : decode cX12_nameOf 155 = .ok (.goto 30, 3) := by decide +kernel
theorem dX12_nameOf_158 : decode cX12_nameOf 158 = .ok (.aload_n 0, 1) := by decide +kernel
theorem dX12_nameOf_159 : decode cX12_nameOf 159 = .ok (.getfield 148, 3) := by decide +kernel
theorem dX12_nameOf_162 : decode cX12_nameOf 162 = .ok (.bipush 115, 2) := by decide +kernel
theorem dX12_nameOf_164 : decode cX12_nameOf 164 = .ok (.bipush 116, 2) := by decide +kernel
theorem dX12_nameOf_166 : decode cX12_nameOf 166 = .ok (.bipush 101, 2) := by decide +kernel
theorem dX12_nameOf_168 : decode cX12_nameOf 168 = .ok (.bipush 112, 2) := by decide +kernel
theorem dX12_nameOf_170 : decode cX12_nameOf 170 = .ok (.bipush 115, 2) := by decide +kernel
theorem dX12_nameOf_172 : decode cX12_nameOf 172 = .ok (.invokestatic 169, 3) := by decide +kernel
theorem dX12_nameOf_175 : decode cX12_nameOf 175 = .ok (.lcmp, 1) := by decide +kernel
theorem dX12_nameOf_176 : decode cX12_nameOf 176 = .ok (.ifCond .ne 8, 3) := by decide +kernel
theorem dX12_nameOf_179 : decode cX12_nameOf 179 = .ok (.bipush 7, 2) := by decide +kernel
theorem dX12_nameOf_181 : decode cX12_nameOf 181 = .ok (.goto 4, 3) := by decide +kernel
theorem dX12_nameOf_184 : decode cX12_nameOf 184 = .ok (.iconst (-1), 1) := by decide +kernel
theorem dX12_nameOf_185 : decode cX12_nameOf 185 = .ok (.ireturn, 1) := by decide +kernel
theorem dX12_rank_0 : decode cX12_rank 0 = .ok (.iload_n 0, 1) := by decide +kernel
theorem dX12_rank_1 : decode cX12_rank 1 = .ok (.bipush 40, 2) := by decide +kernel
theorem dX12_rank_3 : decode cX12_rank 3 = .ok (.if_icmp .lt 7, 3) := by decide +kernel
theorem dX12_rank_6 : decode cX12_rank 6 = .ok (.iconst 0, 1) := by decide +kernel
theorem dX12_rank_7 : decode cX12_rank 7 = .ok (.goto 75, 3) := by decide +kernel
theorem dX12_rank_10 : decode cX12_rank 10 = .ok (.iload_n 0, 1) := by decide +kernel
theorem dX12_rank_11 : decode cX12_rank 11 = .ok (.bipush 22, 2) := by decide +kernel
theorem dX12_rank_13 : decode cX12_rank 13 = .ok (.if_icmp .ne 7, 3) := by decide +kernel
theorem dX12_rank_16 : decode cX12_rank 16 = .ok (.iconst 1, 1) := by decide +kernel
theorem dX12_rank_17 : decode cX12_rank 17 = .ok (.goto 65, 3) := by decide +kernel
theorem dX12_rank_20 : decode cX12_rank 20 = .ok (.iload_n 0, 1) := by decide +kernel
theorem dX12_rank_21 : decode cX12_rank 21 = .ok (.bipush 21, 2) := by decide +kernel
theorem dX12_rank_23 : decode cX12_rank 23 = .ok (.if_icmp .ne 7, 3) := by decide +kernel
theorem dX12_rank_26 : decode cX12_rank 26 = .ok (.iconst 2, 1) := by decide +kernel
theorem dX12_rank_27 : decode cX12_rank 27 = .ok (.goto 55, 3) := by decide +kernel
theorem dX12_rank_30 : decode cX12_rank 30 = .ok (.iload_n 0, 1) := by decide +kernel
theorem dX12_rank_31 : decode cX12_rank 31 = .ok (.bipush 20, 2) := by decide +kernel
theorem dX12_rank_33 : decode cX12_rank 33 = .ok (.if_icmp .ne 7, 3) := by decide +kernel
theorem dX12_rank_36 : decode cX12_rank 36 = .ok (.iconst 3, 1) := by decide +kernel
theorem dX12_rank_37 : decode cX12_rank 37 = .ok (.goto 45, 3) := by decide +kernel
theorem dX12_rank_40 : decode cX12_rank 40 = .ok (.iload_n 0, 1) := by decide +kernel
theorem dX12_rank_41 : decode cX12_rank 41 = .ok (.bipush 10, 2) := by decide +kernel
theorem dX12_rank_43 : decode cX12_rank 43 = .ok (.if_icmp .lt 7, 3) := by decide +kernel
theorem dX12_rank_46 : decode cX12_rank 46 = .ok (.iconst 4, 1) := by decide +kernel
theorem dX12_rank_47 : decode cX12_rank 47 = .ok (.goto 35, 3) := by decide +kernel
theorem dX12_rank_50 : decode cX12_rank 50 = .ok (.iload_n 0, 1) := by decide +kernel
theorem dX12_rank_51 : decode cX12_rank 51 = .ok (.iconst 5, 1) := by decide +kernel
theorem dX12_rank_52 : decode cX12_rank 52 = .ok (.if_icmp .eq 13, 3) := by decide +kernel
theorem dX12_rank_55 : decode cX12_rank 55 = .ok (.iload_n 0, 1) := by decide +kernel
theorem dX12_rank_56 : decode cX12_rank 56 = .ok (.iconst 2, 1) := by decide +kernel
theorem dX12_rank_57 : decode cX12_rank 57 = .ok (.if_icmp .eq 8, 3) := by decide +kernel
theorem dX12_rank_60 : decode cX12_rank 60 = .ok (.iload_n 0, 1) := by decide +kernel
theorem dX12_rank_61 : decode cX12_rank 61 = .ok (.iconst 4, 1) := by decide +kernel
theorem dX12_rank_62 : decode cX12_rank 62 = .ok (.if_icmp .ne 8, 3) := by decide +kernel
theorem dX12_rank_65 : decode cX12_rank 65 = .ok (.bipush 7, 2) := by decide +kernel
theorem dX12_rank_67 : decode cX12_rank 67 = .ok (.goto 15, 3) := by decide +kernel
theorem dX12_rank_70 : decode cX12_rank 70 = .ok (.iload_n 0, 1) := by decide +kernel
theorem dX12_rank_71 : decode cX12_rank 71 = .ok (.bipush 8, 2) := by decide +kernel
theorem dX12_rank_73 : decode cX12_rank 73 = .ok (.if_icmp .lt 8, 3) := by decide +kernel
theorem dX12_rank_76 : decode cX12_rank 76 = .ok (.bipush 6, 2) := by decide +kernel
theorem dX12_rank_78 : decode cX12_rank 78 = .ok (.goto 4, 3) := by decide +kernel
theorem dX12_rank_81 : decode cX12_rank 81 = .ok (.iconst 5, 1) := by decide +kernel
theorem dX12_rank_82 : decode cX12_rank 82 = .ok (.ireturn, 1) := by decide +kernel
theorem dX12_settle_0 : decode cX12_settle 0 = .ok (.aload_n 0, 1) := by decide +kernel
theorem dX12_settle_1 : decode cX12_settle 1 = .ok (.getfield 183, 3) := by decide +kernel
theorem dX12_settle_4 : decode cX12_settle 4 = .ok (.ifCond .le 89, 3) := by decide +kernel
theorem dX12_settle_7 : decode cX12_settle 7 = .ok (.aload_n 0, 1) := by decide +kernel
theorem dX12_settle_8 : decode cX12_settle 8 = .ok (.getfield 29, 3) := by decide +kernel
theorem dX12_settle_11 : decode cX12_settle 11 = .ok (.aload_n 0, 1) := by decide +kernel
theorem dX12_settle_12 : decode cX12_settle 12 = .ok (.getfield 183, 3) := by decide +kernel
theorem dX12_settle_15 : decode cX12_settle 15 = .ok (.iconst 1, 1) := by decide +kernel
theorem dX12_settle_16 : decode cX12_settle 16 = .ok (.isub, 1) := by decide +kernel
theorem dX12_settle_17 : decode cX12_settle 17 = .ok (.iaload, 1) := by decide +kernel
theorem dX12_settle_18 : decode cX12_settle 18 = .ok (.invokestatic 186, 3) := by decide +kernel
theorem dX12_settle_21 : decode cX12_settle 21 = .ok (.iload_n 1, 1) := by decide +kernel
theorem dX12_settle_22 : decode cX12_settle 22 = .ok (.if_icmp .lt 71, 3) := by decide +kernel
theorem dX12_settle_25 : decode cX12_settle 25 = .ok (.aload_n 0, 1) := by decide +kernel
theorem dX12_settle_26 : decode cX12_settle 26 = .ok (.dup, 1) := by decide +kernel
theorem dX12_settle_27 : decode cX12_settle 27 = .ok (.getfield 183, 3) := by decide +kernel
theorem dX12_settle_30 : decode cX12_settle 30 = .ok (.iconst 1, 1) := by decide +kernel
theorem dX12_settle_31 : decode cX12_settle 31 = .ok (.isub, 1) := by decide +kernel
theorem dX12_settle_32 : decode cX12_settle 32 = .ok (.putfield 183, 3) := by decide +kernel
theorem dX12_settle_35 : decode cX12_settle 35 = .ok (.aload_n 0, 1) := by decide +kernel
theorem dX12_settle_36 : decode cX12_settle 36 = .ok (.aload_n 0, 1) := by decide +kernel
theorem dX12_settle_37 : decode cX12_settle 37 = .ok (.getfield 29, 3) := by decide +kernel
theorem dX12_settle_40 : decode cX12_settle 40 = .ok (.aload_n 0, 1) := by decide +kernel
theorem dX12_settle_41 : decode cX12_settle 41 = .ok (.getfield 183, 3) := by decide +kernel
theorem dX12_settle_44 : decode cX12_settle 44 = .ok (.iaload, 1) := by decide +kernel
theorem dX12_settle_45 : decode cX12_settle 45 = .ok (.iconst 0, 1) := by decide +kernel
theorem dX12_settle_46 : decode cX12_settle 46 = .ok (.invokevirtual 189, 3) := by decide +kernel
theorem dX12_settle_49 : decode cX12_settle 49 = .ok (.aload_n 0, 1) := by decide +kernel
theorem dX12_settle_50 : decode cX12_settle 50 = .ok (.getfield 29, 3) := by decide +kernel
theorem dX12_settle_53 : decode cX12_settle 53 = .ok (.aload_n 0, 1) := by decide +kernel
theorem dX12_settle_54 : decode cX12_settle 54 = .ok (.getfield 183, 3) := by decide +kernel
theorem dX12_settle_57 : decode cX12_settle 57 = .ok (.iaload, 1) := by decide +kernel
theorem dX12_settle_58 : decode cX12_settle 58 = .ok (.invokestatic 186, 3) := by decide +kernel
theorem dX12_settle_61 : decode cX12_settle 61 = .ok (.bipush 7, 2) := by decide +kernel
theorem dX12_settle_63 : decode cX12_settle 63 = .ok (.if_icmp .eq 17, 3) := by decide +kernel
theorem dX12_settle_66 : decode cX12_settle 66 = .ok (.aload_n 0, 1) := by decide +kernel
theorem dX12_settle_67 : decode cX12_settle 67 = .ok (.getfield 29, 3) := by decide +kernel
theorem dX12_settle_70 : decode cX12_settle 70 = .ok (.aload_n 0, 1) := by decide +kernel
theorem dX12_settle_71 : decode cX12_settle 71 = .ok (.getfield 183, 3) := by decide +kernel
theorem dX12_settle_74 : decode cX12_settle 74 = .ok (.iaload, 1) := by decide +kernel
theorem dX12_settle_75 : decode cX12_settle 75 = .ok (.bipush 20, 2) := by decide +kernel
theorem dX12_settle_77 : decode cX12_settle 77 = .ok (.if_icmp .ne (-77), 3) := by decide +kernel
theorem dX12_settle_80 : decode cX12_settle 80 = .ok (.aload_n 0, 1) := by decide +kernel
theorem dX12_settle_81 : decode cX12_settle 81 = .ok (.dup, 1) := by decide +kernel
theorem dX12_settle_82 : decode cX12_settle 82 = .ok (.getfield 193, 3) := by decide +kernel
theorem dX12_settle_85 : decode cX12_settle 85 = .ok (.iconst 1, 1) := by decide +kernel
theorem dX12_settle_86 : decode cX12_settle 86 = .ok (.isub, 1) := by decide +kernel
theorem dX12_settle_87 : decode cX12_settle 87 = .ok (.putfield 193, 3) := by decide +kernel
theorem dX12_settle_90 : decode cX12_settle 90 = .ok (.goto (-90), 3) := by decide +kernel
theorem dX12_settle_93 : decode cX12_settle 93 = .ok (.return_, 1) := by decide +kernel
theorem dX12_openAt_0 : decode cX12_openAt 0 = .ok (.aload_n 0, 1) := by decide +kernel
theorem dX12_openAt_1 : decode cX12_openAt 1 = .ok (.getfield 183, 3) := by decide +kernel
theorem dX12_openAt_4 : decode cX12_openAt 4 = .ok (.iconst 1, 1) := by decide +kernel
theorem dX12_openAt_5 : decode cX12_openAt 5 = .ok (.isub, 1) := by decide +kernel
theorem dX12_openAt_6 : decode cX12_openAt 6 = .ok (.istore_n 1, 1) := by decide +kernel
theorem dX12_openAt_7 : decode cX12_openAt 7 = .ok (.iload_n 1, 1) := by decide +kernel
theorem dX12_openAt_8 : decode cX12_openAt 8 = .ok (.ifCond .lt 20, 3) := by decide +kernel
theorem dX12_openAt_11 : decode cX12_openAt 11 = .ok (.aload_n 0, 1) := by decide +kernel
theorem dX12_openAt_12 : decode cX12_openAt 12 = .ok (.getfield 29, 3) := by decide +kernel
theorem dX12_openAt_15 : decode cX12_openAt 15 = .ok (.iload_n 1, 1) := by decide +kernel
theorem dX12_openAt_16 : decode cX12_openAt 16 = .ok (.iaload, 1) := by decide +kernel
theorem dX12_openAt_17 : decode cX12_openAt 17 = .ok (.bipush 40, 2) := by decide +kernel
theorem dX12_openAt_19 : decode cX12_openAt 19 = .ok (.if_icmp .ge 9, 3) := by decide +kernel
theorem dX12_openAt_22 : decode cX12_openAt 22 = .ok (.iinc 1 (-1), 3) := by decide +kernel
theorem dX12_openAt_25 : decode cX12_openAt 25 = .ok (.goto (-18), 3) := by decide +kernel
theorem dX12_openAt_28 : decode cX12_openAt 28 = .ok (.iload_n 1, 1) := by decide +kernel
theorem dX12_openAt_29 : decode cX12_openAt 29 = .ok (.ireturn, 1) := by decide +kernel
theorem dX12_openNow_0 : decode cX12_openNow 0 = .ok (.aload_n 0, 1) := by decide +kernel
theorem dX12_openNow_1 : decode cX12_openNow 1 = .ok (.invokevirtual 196, 3) := by decide +kernel
theorem dX12_openNow_4 : decode cX12_openNow 4 = .ok (.ifCond .ge 7, 3) := by decide +kernel
theorem dX12_openNow_7 : decode cX12_openNow 7 = .ok (.iconst (-1), 1) := by decide +kernel
theorem dX12_openNow_8 : decode cX12_openNow 8 = .ok (.goto 12, 3) := by decide +kernel
theorem dX12_openNow_11 : decode cX12_openNow 11 = .ok (.aload_n 0, 1) := by decide +kernel
theorem dX12_openNow_12 : decode cX12_openNow 12 = .ok (.getfield 29, 3) := by decide +kernel
theorem dX12_openNow_15 : decode cX12_openNow 15 = .ok (.aload_n 0, 1) := by decide +kernel
theorem dX12_openNow_16 : decode cX12_openNow 16 = .ok (.invokevirtual 196, 3) := by decide +kernel
theorem dX12_openNow_19 : decode cX12_openNow 19 = .ok (.iaload, 1) := by decide +kernel
theorem dX12_openNow_20 : decode cX12_openNow 20 = .ok (.ireturn, 1) := by decide +kernel
theorem dX12_isCompared_0 : decode cX12_isCompared 0 = .ok (.aload_n 0, 1) := by decide +kernel
theorem dX12_isCompared_1 : decode cX12_isCompared 1 = .ok (.getfield 183, 3) := by decide +kernel
theorem dX12_isCompared_4 : decode cX12_isCompared 4 = .ok (.iconst 1, 1) := by decide +kernel
theorem dX12_isCompared_5 : decode cX12_isCompared 5 = .ok (.isub, 1) := by decide +kernel
theorem dX12_isCompared_6 : decode cX12_isCompared 6 = .ok (.istore_n 1, 1) := by decide +kernel
theorem dX12_isCompared_7 : decode cX12_isCompared 7 = .ok (.iload_n 1, 1) := by decide +kernel
theorem dX12_isCompared_8 : decode cX12_isCompared 8 = .ok (.ifCond .lt 22, 3) := by decide +kernel
theorem dX12_isCompared_11 : decode cX12_isCompared 11 = .ok (.aload_n 0, 1) := by decide +kernel
theorem dX12_isCompared_12 : decode cX12_isCompared 12 = .ok (.getfield 29, 3) := by decide +kernel
theorem dX12_isCompared_15 : decode cX12_isCompared 15 = .ok (.iload_n 1, 1) := by decide +kernel
theorem dX12_isCompared_16 : decode cX12_isCompared 16 = .ok (.iaload, 1) := by decide +kernel
theorem dX12_isCompared_17 : decode cX12_isCompared 17 = .ok (.invokestatic 186, 3) := by decide +kernel
theorem dX12_isCompared_20 : decode cX12_isCompared 20 = .ok (.iconst 4, 1) := by decide +kernel
theorem dX12_isCompared_21 : decode cX12_isCompared 21 = .ok (.if_icmp .le 9, 3) := by decide +kernel
theorem dX12_isCompared_24 : decode cX12_isCompared 24 = .ok (.iinc 1 (-1), 3) := by decide +kernel
theorem dX12_isCompared_27 : decode cX12_isCompared 27 = .ok (.goto (-20), 3) := by decide +kernel
theorem dX12_isCompared_30 : decode cX12_isCompared 30 = .ok (.iload_n 1, 1) := by decide +kernel
theorem dX12_isCompared_31 : decode cX12_isCompared 31 = .ok (.ifCond .lt 20, 3) := by decide +kernel
theorem dX12_isCompared_34 : decode cX12_isCompared 34 = .ok (.aload_n 0, 1) := by decide +kernel
theorem dX12_isCompared_35 : decode cX12_isCompared 35 = .ok (.getfield 29, 3) := by decide +kernel
theorem dX12_isCompared_38 : decode cX12_isCompared 38 = .ok (.iload_n 1, 1) := by decide +kernel
theorem dX12_isCompared_39 : decode cX12_isCompared 39 = .ok (.iaload, 1) := by decide +kernel
theorem dX12_isCompared_40 : decode cX12_isCompared 40 = .ok (.invokestatic 186, 3) := by decide +kernel
theorem dX12_isCompared_43 : decode cX12_isCompared 43 = .ok (.iconst 4, 1) := by decide +kernel
theorem dX12_isCompared_44 : decode cX12_isCompared 44 = .ok (.if_icmp .ne 7, 3) := by decide +kernel
theorem dX12_isCompared_47 : decode cX12_isCompared 47 = .ok (.iconst 1, 1) := by decide +kernel
theorem dX12_isCompared_48 : decode cX12_isCompared 48 = .ok (.goto 4, 3) := by decide +kernel
theorem dX12_isCompared_51 : decode cX12_isCompared 51 = .ok (.iconst 0, 1) := by decide +kernel
theorem dX12_isCompared_52 : decode cX12_isCompared 52 = .ok (.ireturn, 1) := by decide +kernel
theorem dX12_isAskAhead_0 : decode cX12_isAskAhead 0 = .ok (.aload_n 0, 1) := by decide +kernel
theorem dX12_isAskAhead_1 : decode cX12_isAskAhead 1 = .ok (.invokevirtual 200, 3) := by decide +kernel
theorem dX12_isAskAhead_4 : decode cX12_isAskAhead 4 = .ok (.bipush 42, 2) := by decide +kernel
theorem dX12_isAskAhead_6 : decode cX12_isAskAhead 6 = .ok (.if_icmp .ne 45, 3) := by decide +kernel
theorem dX12_isAskAhead_9 : decode cX12_isAskAhead 9 = .ok (.aload_n 0, 1) := by decide +kernel
theorem dX12_isAskAhead_10 : decode cX12_isAskAhead 10 = .ok (.getfield 29, 3) := by decide +kernel
theorem dX12_isAskAhead_13 : decode cX12_isAskAhead 13 = .ok (.aload_n 0, 1) := by decide +kernel
theorem dX12_isAskAhead_14 : decode cX12_isAskAhead 14 = .ok (.getfield 183, 3) := by decide +kernel
theorem dX12_isAskAhead_17 : decode cX12_isAskAhead 17 = .ok (.iconst 1, 1) := by decide +kernel
theorem dX12_isAskAhead_18 : decode cX12_isAskAhead 18 = .ok (.isub, 1) := by decide +kernel
theorem dX12_isAskAhead_19 : decode cX12_isAskAhead 19 = .ok (.iaload, 1) := by decide +kernel
theorem dX12_isAskAhead_20 : decode cX12_isAskAhead 20 = .ok (.bipush 40, 2) := by decide +kernel
theorem dX12_isAskAhead_22 : decode cX12_isAskAhead 22 = .ok (.if_icmp .ge 25, 3) := by decide +kernel
theorem dX12_isAskAhead_25 : decode cX12_isAskAhead 25 = .ok (.aload_n 0, 1) := by decide +kernel
theorem dX12_isAskAhead_26 : decode cX12_isAskAhead 26 = .ok (.getfield 29, 3) := by decide +kernel
theorem dX12_isAskAhead_29 : decode cX12_isAskAhead 29 = .ok (.aload_n 0, 1) := by decide +kernel
theorem dX12_isAskAhead_30 : decode cX12_isAskAhead 30 = .ok (.getfield 183, 3) := by decide +kernel
theorem dX12_isAskAhead_33 : decode cX12_isAskAhead 33 = .ok (.iconst 1, 1) := by decide +kernel
theorem dX12_isAskAhead_34 : decode cX12_isAskAhead 34 = .ok (.isub, 1) := by decide +kernel
theorem dX12_isAskAhead_35 : decode cX12_isAskAhead 35 = .ok (.iaload, 1) := by decide +kernel
theorem dX12_isAskAhead_36 : decode cX12_isAskAhead 36 = .ok (.invokestatic 186, 3) := by decide +kernel
theorem dX12_isAskAhead_39 : decode cX12_isAskAhead 39 = .ok (.iconst 1, 1) := by decide +kernel
theorem dX12_isAskAhead_40 : decode cX12_isAskAhead 40 = .ok (.iconst 3, 1) := by decide +kernel
theorem dX12_isAskAhead_41 : decode cX12_isAskAhead 41 = .ok (.invokestatic 87, 3) := by decide +kernel
theorem dX12_isAskAhead_44 : decode cX12_isAskAhead 44 = .ok (.ifCond .eq 7, 3) := by decide +kernel
theorem dX12_isAskAhead_47 : decode cX12_isAskAhead 47 = .ok (.iconst 1, 1) := by decide +kernel
theorem dX12_isAskAhead_48 : decode cX12_isAskAhead 48 = .ok (.goto 4, 3) := by decide +kernel
theorem dX12_isAskAhead_51 : decode cX12_isAskAhead 51 = .ok (.iconst 0, 1) := by decide +kernel
theorem dX12_isAskAhead_52 : decode cX12_isAskAhead 52 = .ok (.ireturn, 1) := by decide +kernel
theorem dX12_opened_0 : decode cX12_opened 0 = .ok (.aload_n 0, 1) := by decide +kernel
theorem dX12_opened_1 : decode cX12_opened 1 = .ok (.getfield 193, 3) := by decide +kernel
theorem dX12_opened_4 : decode cX12_opened 4 = .ok (.bipush 8, 2) := by decide +kernel
theorem dX12_opened_6 : decode cX12_opened 6 = .ok (.if_icmp .ne 5, 3) := by decide +kernel
theorem dX12_opened_9 : decode cX12_opened 9 = .ok (.iconst 3, 1) := by decide +kernel
theorem dX12_opened_10 : decode cX12_opened 10 = .ok (.ireturn, 1) := by decide +kernel
theorem dX12_opened_11 : decode cX12_opened 11 = .ok (.aload_n 0, 1) := by decide +kernel
theorem dX12_opened_12 : decode cX12_opened 12 = .ok (.dup, 1) := by decide +kernel
theorem dX12_opened_13 : decode cX12_opened 13 = .ok (.getfield 193, 3) := by decide +kernel
theorem dX12_opened_16 : decode cX12_opened 16 = .ok (.iconst 1, 1) := by decide +kernel
theorem dX12_opened_17 : decode cX12_opened 17 = .ok (.iadd, 1) := by decide +kernel
theorem dX12_opened_18 : decode cX12_opened 18 = .ok (.putfield 193, 3) := by decide +kernel
theorem dX12_opened_21 : decode cX12_opened 21 = .ok (.aload_n 0, 1) := by decide +kernel
theorem dX12_opened_22 : decode cX12_opened 22 = .ok (.getfield 29, 3) := by decide +kernel
theorem dX12_opened_25 : decode cX12_opened 25 = .ok (.aload_n 0, 1) := by decide +kernel
theorem dX12_opened_26 : decode cX12_opened 26 = .ok (.getfield 183, 3) := by decide +kernel
theorem dX12_opened_29 : decode cX12_opened 29 = .ok (.iload_n 1, 1) := by decide +kernel
theorem dX12_opened_30 : decode cX12_opened 30 = .ok (.iastore, 1) := by decide +kernel
theorem dX12_opened_31 : decode cX12_opened 31 = .ok (.aload_n 0, 1) := by decide +kernel
theorem dX12_opened_32 : decode cX12_opened 32 = .ok (.dup, 1) := by decide +kernel
theorem dX12_opened_33 : decode cX12_opened 33 = .ok (.getfield 183, 3) := by decide +kernel
theorem dX12_opened_36 : decode cX12_opened 36 = .ok (.iconst 1, 1) := by decide +kernel
theorem dX12_opened_37 : decode cX12_opened 37 = .ok (.iadd, 1) := by decide +kernel
theorem dX12_opened_38 : decode cX12_opened 38 = .ok (.putfield 183, 3) := by decide +kernel
theorem dX12_opened_41 : decode cX12_opened 41 = .ok (.aload_n 0, 1) := by decide +kernel
theorem dX12_opened_42 : decode cX12_opened 42 = .ok (.invokevirtual 203, 3) := by decide +kernel
theorem dX12_opened_45 : decode cX12_opened 45 = .ok (.iconst 0, 1) := by decide +kernel
theorem dX12_opened_46 : decode cX12_opened 46 = .ok (.ireturn, 1) := by decide +kernel
theorem dX12_beginOne_0 : decode cX12_beginOne 0 = .ok (.aload_n 0, 1) := by decide +kernel
theorem dX12_beginOne_1 : decode cX12_beginOne 1 = .ok (.getfield 135, 3) := by decide +kernel
theorem dX12_beginOne_4 : decode cX12_beginOne 4 = .ok (.iconst 1, 1) := by decide +kernel
theorem dX12_beginOne_5 : decode cX12_beginOne 5 = .ok (.if_icmp .ne 15, 3) := by decide +kernel
theorem dX12_beginOne_8 : decode cX12_beginOne 8 = .ok (.aload_n 0, 1) := by decide +kernel
theorem dX12_beginOne_9 : decode cX12_beginOne 9 = .ok (.getfield 141, 3) := by decide +kernel
theorem dX12_beginOne_12 : decode cX12_beginOne 12 = .ok (.sipush 9999, 3) := by decide +kernel
theorem dX12_beginOne_15 : decode cX12_beginOne 15 = .ok (.if_icmp .le 5, 3) := by decide +kernel
theorem dX12_beginOne_18 : decode cX12_beginOne 18 = .ok (.iconst 2, 1) := by decide +kernel
theorem dX12_beginOne_19 : decode cX12_beginOne 19 = .ok (.ireturn, 1) := by decide +kernel
theorem dX12_beginOne_20 : decode cX12_beginOne 20 = .ok (.aload_n 0, 1) := by decide +kernel
theorem dX12_beginOne_21 : decode cX12_beginOne 21 = .ok (.invokevirtual 206, 3) := by decide +kernel
theorem dX12_beginOne_24 : decode cX12_beginOne 24 = .ok (.istore_n 1, 1) := by decide +kernel
theorem dX12_beginOne_25 : decode cX12_beginOne 25 = .ok (.iload_n 1, 1) := by decide +kernel
theorem dX12_beginOne_26 : decode cX12_beginOne 26 = .ok (.bipush 7, 2) := by decide +kernel
theorem dX12_beginOne_28 : decode cX12_beginOne 28 = .ok (.if_icmp .ne 12, 3) := by decide +kernel
theorem dX12_beginOne_31 : decode cX12_beginOne 31 = .ok (.aload_n 0, 1) := by decide +kernel
theorem dX12_beginOne_32 : decode cX12_beginOne 32 = .ok (.getfield 209, 3) := by decide +kernel
theorem dX12_beginOne_35 : decode cX12_beginOne 35 = .ok (.ifCond .eq 5, 3) := by decide +kernel
theorem dX12_beginOne_38 : decode cX12_beginOne 38 = .ok (.iconst 5, 1) := by decide +kernel
theorem dX12_beginOne_39 : decode cX12_beginOne 39 = .ok (.ireturn, 1) := by decide +kernel
theorem dX12_beginOne_40 : decode cX12_beginOne 40 = .ok (.aload_n 0, 1) := by decide +kernel
theorem dX12_beginOne_41 : decode cX12_beginOne 41 = .ok (.getfield 135, 3) := by decide +kernel
theorem dX12_beginOne_44 : decode cX12_beginOne 44 = .ok (.iconst 1, 1) := by decide +kernel
theorem dX12_beginOne_45 : decode cX12_beginOne 45 = .ok (.if_icmp .eq 7, 3) := by decide +kernel
theorem dX12_beginOne_48 : decode cX12_beginOne 48 = .ok (.iload_n 1, 1) := by decide +kernel
theorem dX12_beginOne_49 : decode cX12_beginOne 49 = .ok (.ifCond .lt 45, 3) := by decide +kernel
theorem dX12_beginOne_52 : decode cX12_beginOne 52 = .ok (.aload_n 0, 1) := by decide +kernel
theorem dX12_beginOne_53 : decode cX12_beginOne 53 = .ok (.aload_n 0, 1) := by decide +kernel
theorem dX12_beginOne_54 : decode cX12_beginOne 54 = .ok (.getfield 135, 3) := by decide +kernel
theorem dX12_beginOne_57 : decode cX12_beginOne 57 = .ok (.iconst 1, 1) := by decide +kernel
theorem dX12_beginOne_58 : decode cX12_beginOne 58 = .ok (.if_icmp .ne 7, 3) := by decide +kernel
theorem dX12_beginOne_61 : decode cX12_beginOne 61 = .ok (.iconst 0, 1) := by decide +kernel
theorem dX12_beginOne_62 : decode cX12_beginOne 62 = .ok (.goto 4, 3) := by decide +kernel
theorem dX12_beginOne_65 : decode cX12_beginOne 65 = .ok (.iconst 1, 1) := by decide +kernel
theorem dX12_beginOne_66 : decode cX12_beginOne 66 = .ok (.aload_n 0, 1) := by decide +kernel
theorem dX12_beginOne_67 : decode cX12_beginOne 67 = .ok (.getfield 135, 3) := by decide +kernel
theorem dX12_beginOne_70 : decode cX12_beginOne 70 = .ok (.iconst 1, 1) := by decide +kernel
theorem dX12_beginOne_71 : decode cX12_beginOne 71 = .ok (.if_icmp .ne 10, 3) := by decide +kernel
theorem dX12_beginOne_74 : decode cX12_beginOne 74 = .ok (.aload_n 0, 1) := by decide +kernel
theorem dX12_beginOne_75 : decode cX12_beginOne 75 = .ok (.getfield 141, 3) := by decide +kernel
theorem dX12_beginOne_78 : decode cX12_beginOne 78 = .ok (.goto 4, 3) := by decide +kernel
theorem dX12_beginOne_81 : decode cX12_beginOne 81 = .ok (.iload_n 1, 1) := by decide +kernel
theorem dX12_beginOne_82 : decode cX12_beginOne 82 = .ok (.invokevirtual 189, 3) := by decide +kernel
theorem dX12_beginOne_85 : decode cX12_beginOne 85 = .ok (.aload_n 0, 1) := by decide +kernel
theorem dX12_beginOne_86 : decode cX12_beginOne 86 = .ok (.invokevirtual 203, 3) := by decide +kernel
theorem dX12_beginOne_89 : decode cX12_beginOne 89 = .ok (.aload_n 0, 1) := by decide +kernel
theorem dX12_beginOne_90 : decode cX12_beginOne 90 = .ok (.invokevirtual 212, 3) := by decide +kernel
theorem dX12_beginOne_93 : decode cX12_beginOne 93 = .ok (.ireturn, 1) := by decide +kernel
theorem dX12_beginOne_94 : decode cX12_beginOne 94 = .ok (.aload_n 0, 1) := by decide +kernel
theorem dX12_beginOne_95 : decode cX12_beginOne 95 = .ok (.getfield 135, 3) := by decide +kernel
theorem dX12_beginOne_98 : decode cX12_beginOne 98 = .ok (.bipush 40, 2) := by decide +kernel
theorem dX12_beginOne_100 : decode cX12_beginOne 100 = .ok (.if_icmp .ne 10, 3) := by decide +kernel
theorem dX12_beginOne_103 : decode cX12_beginOne 103 = .ok (.aload_n 0, 1) := by decide +kernel
theorem dX12_beginOne_104 : decode cX12_beginOne 104 = .ok (.bipush 40, 2) := by decide +kernel
theorem dX12_beginOne_106 : decode cX12_beginOne 106 = .ok (.invokevirtual 215, 3) := by decide +kernel
theorem dX12_beginOne_109 : decode cX12_beginOne 109 = .ok (.ireturn, 1) := by decide +kernel
theorem dX12_beginOne_110 : decode cX12_beginOne 110 = .ok (.aload_n 0, 1) := by decide +kernel
theorem dX12_beginOne_111 : decode cX12_beginOne 111 = .ok (.getfield 135, 3) := by decide +kernel
theorem dX12_beginOne_114 : decode cX12_beginOne 114 = .ok (.bipush 45, 2) := by decide +kernel
theorem dX12_beginOne_116 : decode cX12_beginOne 116 = .ok (.if_icmp .ne 9, 3) := by decide +kernel
theorem dX12_beginOne_119 : decode cX12_beginOne 119 = .ok (.aload_n 0, 1) := by decide +kernel
theorem dX12_beginOne_120 : decode cX12_beginOne 120 = .ok (.iconst 5, 1) := by decide +kernel
theorem dX12_beginOne_121 : decode cX12_beginOne 121 = .ok (.invokevirtual 215, 3) := by decide +kernel
theorem dX12_beginOne_124 : decode cX12_beginOne 124 = .ok (.ireturn, 1) := by decide +kernel
theorem dX12_beginOne_125 : decode cX12_beginOne 125 = .ok (.aload_n 0, 1) := by decide +kernel
theorem dX12_beginOne_126 : decode cX12_beginOne 126 = .ok (.bipush 115, 2) := by decide +kernel
theorem dX12_beginOne_128 : decode cX12_beginOne 128 = .ok (.bipush 104, 2) := by decide +kernel
theorem dX12_beginOne_130 : decode cX12_beginOne 130 = .ok (.bipush 97, 2) := by decide +kernel
theorem dX12_beginOne_132 : decode cX12_beginOne 132 = .ok (.bipush 114, 2) := by decide +kernel
theorem dX12_beginOne_134 : decode cX12_beginOne 134 = .ok (.bipush 101, 2) := by decide +kernel
theorem dX12_beginOne_136 : decode cX12_beginOne 136 = .ok (.invokestatic 169, 3) := by decide +kernel
theorem dX12_beginOne_139 : decode cX12_beginOne 139 = .ok (.invokevirtual 218, 3) := by decide +kernel
theorem dX12_beginOne_142 : decode cX12_beginOne 142 = .ok (.ifCond .eq 10, 3) := by decide +kernel
theorem dX12_beginOne_145 : decode cX12_beginOne 145 = .ok (.aload_n 0, 1) := by decide +kernel
theorem dX12_beginOne_146 : decode cX12_beginOne 146 = .ok (.bipush 41, 2) := by decide +kernel
theorem dX12_beginOne_148 : decode cX12_beginOne 148 = .ok (.invokevirtual 215, 3) := by decide +kernel
theorem dX12_beginOne_151 : decode cX12_beginOne 151 = .ok (.ireturn, 1) := by decide +kernel
theorem dX12_beginOne_152 : decode cX12_beginOne 152 = .ok (.aload_n 0, 1) := by decide +kernel
theorem dX12_beginOne_153 : decode cX12_beginOne 153 = .ok (.bipush 119, 2) := by decide +kernel
theorem dX12_beginOne_155 : decode cX12_beginOne 155 = .ok (.bipush 97, 2) := by decide +kernel
theorem dX12_beginOne_157 : decode cX12_beginOne 157 = .ok (.bipush 116, 2) := by decide +kernel
theorem dX12_beginOne_159 : decode cX12_beginOne 159 = .ok (.bipush 101, 2) := by decide +kernel
theorem dX12_beginOne_161 : decode cX12_beginOne 161 = .ok (.bipush 114, 2) := by decide +kernel
theorem dX12_beginOne_163 : decode cX12_beginOne 163 = .ok (.bipush 115, 2) := by decide +kernel
theorem dX12_beginOne_165 : decode cX12_beginOne 165 = .ok (.invokestatic 179, 3) := by decide +kernel
theorem dX12_beginOne_168 : decode cX12_beginOne 168 = .ok (.invokevirtual 218, 3) := by decide +kernel
theorem dX12_beginOne_171 : decode cX12_beginOne 171 = .ok (.ifCond .eq 9, 3) := by decide +kernel
theorem dX12_beginOne_174 : decode cX12_beginOne 174 = .ok (.aload_n 0, 1) := by decide +kernel
theorem dX12_beginOne_175 : decode cX12_beginOne 175 = .ok (.iconst 2, 1) := by decide +kernel
theorem dX12_beginOne_176 : decode cX12_beginOne 176 = .ok (.invokevirtual 215, 3) := by decide +kernel
theorem dX12_beginOne_179 : decode cX12_beginOne 179 = .ok (.ireturn, 1) := by decide +kernel
theorem dX12_beginOne_180 : decode cX12_beginOne 180 = .ok (.aload_n 0, 1) := by decide +kernel
theorem dX12_beginOne_181 : decode cX12_beginOne 181 = .ok (.bipush 105, 2) := by decide +kernel
theorem dX12_beginOne_183 : decode cX12_beginOne 183 = .ok (.bipush 102, 2) := by decide +kernel
theorem dX12_beginOne_185 : decode cX12_beginOne 185 = .ok (.invokestatic 157, 3) := by decide +kernel
theorem dX12_beginOne_188 : decode cX12_beginOne 188 = .ok (.invokevirtual 218, 3) := by decide +kernel
theorem dX12_beginOne_191 : decode cX12_beginOne 191 = .ok (.ifCond .eq 10, 3) := by decide +kernel
theorem dX12_beginOne_194 : decode cX12_beginOne 194 = .ok (.aload_n 0, 1) := by decide +kernel
theorem dX12_beginOne_195 : decode cX12_beginOne 195 = .ok (.bipush 42, 2) := by decide +kernel
theorem dX12_beginOne_197 : decode cX12_beginOne 197 = .ok (.invokevirtual 215, 3) := by decide +kernel
theorem dX12_beginOne_200 : decode cX12_beginOne 200 = .ok (.ireturn, 1) := by decide +kernel
theorem dX12_beginOne_201 : decode cX12_beginOne 201 = .ok (.aload_n 0, 1) := by decide +kernel
theorem dX12_beginOne_202 : decode cX12_beginOne 202 = .ok (.bipush 110, 2) := by decide +kernel
theorem dX12_beginOne_204 : decode cX12_beginOne 204 = .ok (.bipush 111, 2) := by decide +kernel
theorem dX12_beginOne_206 : decode cX12_beginOne 206 = .ok (.bipush 116, 2) := by decide +kernel
theorem dX12_beginOne_208 : decode cX12_beginOne 208 = .ok (.invokestatic 161, 3) := by decide +kernel
theorem dX12_beginOne_211 : decode cX12_beginOne 211 = .ok (.invokevirtual 218, 3) := by decide +kernel
theorem dX12_beginOne_214 : decode cX12_beginOne 214 = .ok (.ifCond .eq 19, 3) := by decide +kernel
theorem dX12_beginOne_217 : decode cX12_beginOne 217 = .ok (.aload_n 0, 1) := by decide +kernel
theorem dX12_beginOne_218 : decode cX12_beginOne 218 = .ok (.invokevirtual 222, 3) := by decide +kernel
theorem dX12_beginOne_221 : decode cX12_beginOne 221 = .ok (.ifCond .eq 12, 3) := by decide +kernel
theorem dX12_beginOne_224 : decode cX12_beginOne 224 = .ok (.aload_n 0, 1) := by decide +kernel
theorem dX12_beginOne_225 : decode cX12_beginOne 225 = .ok (.bipush 20, 2) := by decide +kernel
theorem dX12_beginOne_227 : decode cX12_beginOne 227 = .ok (.invokevirtual 215, 3) := by decide +kernel
theorem dX12_beginOne_230 : decode cX12_beginOne 230 = .ok (.goto 4, 3) := by decide +kernel
theorem dX12_beginOne_233 : decode cX12_beginOne 233 = .ok (.iconst 1, 1) := by decide +kernel
theorem dX12_beginOne_234 : decode cX12_beginOne 234 = .ok (.ireturn, 1) := by decide +kernel
theorem dX12_endOne_0 : decode cX12_endOne 0 = .ok (.aload_n 0, 1) := by decide +kernel
theorem dX12_endOne_1 : decode cX12_endOne 1 = .ok (.bipush 7, 2) := by decide +kernel
theorem dX12_endOne_3 : decode cX12_endOne 3 = .ok (.invokevirtual 226, 3) := by decide +kernel
theorem dX12_endOne_6 : decode cX12_endOne 6 = .ok (.aload_n 0, 1) := by decide +kernel
theorem dX12_endOne_7 : decode cX12_endOne 7 = .ok (.iconst 1, 1) := by decide +kernel
theorem dX12_endOne_8 : decode cX12_endOne 8 = .ok (.putfield 229, 3) := by decide +kernel
theorem dX12_endOne_11 : decode cX12_endOne 11 = .ok (.aload_n 0, 1) := by decide +kernel
theorem dX12_endOne_12 : decode cX12_endOne 12 = .ok (.getfield 183, 3) := by decide +kernel
theorem dX12_endOne_15 : decode cX12_endOne 15 = .ok (.ifCond .eq 19, 3) := by decide +kernel
theorem dX12_endOne_18 : decode cX12_endOne 18 = .ok (.aload_n 0, 1) := by decide +kernel
theorem dX12_endOne_19 : decode cX12_endOne 19 = .ok (.getfield 29, 3) := by decide +kernel
theorem dX12_endOne_22 : decode cX12_endOne 22 = .ok (.aload_n 0, 1) := by decide +kernel
theorem dX12_endOne_23 : decode cX12_endOne 23 = .ok (.getfield 183, 3) := by decide +kernel
theorem dX12_endOne_26 : decode cX12_endOne 26 = .ok (.iconst 1, 1) := by decide +kernel
theorem dX12_endOne_27 : decode cX12_endOne 27 = .ok (.isub, 1) := by decide +kernel
theorem dX12_endOne_28 : decode cX12_endOne 28 = .ok (.iaload, 1) := by decide +kernel
theorem dX12_endOne_29 : decode cX12_endOne 29 = .ok (.bipush 41, 2) := by decide +kernel
theorem dX12_endOne_31 : decode cX12_endOne 31 = .ok (.if_icmp .eq 5, 3) := by decide +kernel
theorem dX12_endOne_34 : decode cX12_endOne 34 = .ok (.iconst 0, 1) := by decide +kernel
theorem dX12_endOne_35 : decode cX12_endOne 35 = .ok (.ireturn, 1) := by decide +kernel
theorem dX12_endOne_36 : decode cX12_endOne 36 = .ok (.aload_n 0, 1) := by decide +kernel
theorem dX12_endOne_37 : decode cX12_endOne 37 = .ok (.bipush 111, 2) := by decide +kernel
theorem dX12_endOne_39 : decode cX12_endOne 39 = .ok (.bipush 102, 2) := by decide +kernel
theorem dX12_endOne_41 : decode cX12_endOne 41 = .ok (.invokestatic 157, 3) := by decide +kernel
theorem dX12_endOne_44 : decode cX12_endOne 44 = .ok (.invokevirtual 218, 3) := by decide +kernel
theorem dX12_endOne_47 : decode cX12_endOne 47 = .ok (.ifCond .ne 5, 3) := by decide +kernel
theorem dX12_endOne_50 : decode cX12_endOne 50 = .ok (.iconst 1, 1) := by decide +kernel
theorem dX12_endOne_51 : decode cX12_endOne 51 = .ok (.ireturn, 1) := by decide +kernel
theorem dX12_endOne_52 : decode cX12_endOne 52 = .ok (.aload_n 0, 1) := by decide +kernel
theorem dX12_endOne_53 : decode cX12_endOne 53 = .ok (.invokevirtual 203, 3) := by decide +kernel
theorem dX12_endOne_56 : decode cX12_endOne 56 = .ok (.aload_n 0, 1) := by decide +kernel
theorem dX12_endOne_57 : decode cX12_endOne 57 = .ok (.getfield 29, 3) := by decide +kernel
theorem dX12_endOne_60 : decode cX12_endOne 60 = .ok (.aload_n 0, 1) := by decide +kernel
theorem dX12_endOne_61 : decode cX12_endOne 61 = .ok (.getfield 183, 3) := by decide +kernel
theorem dX12_endOne_64 : decode cX12_endOne 64 = .ok (.iconst 1, 1) := by decide +kernel
theorem dX12_endOne_65 : decode cX12_endOne 65 = .ok (.isub, 1) := by decide +kernel
theorem dX12_endOne_66 : decode cX12_endOne 66 = .ok (.iconst 4, 1) := by decide +kernel
theorem dX12_endOne_67 : decode cX12_endOne 67 = .ok (.iastore, 1) := by decide +kernel
theorem dX12_endOne_68 : decode cX12_endOne 68 = .ok (.aload_n 0, 1) := by decide +kernel
theorem dX12_endOne_69 : decode cX12_endOne 69 = .ok (.iconst 0, 1) := by decide +kernel
theorem dX12_endOne_70 : decode cX12_endOne 70 = .ok (.putfield 229, 3) := by decide +kernel
theorem dX12_endOne_73 : decode cX12_endOne 73 = .ok (.iconst 0, 1) := by decide +kernel
theorem dX12_endOne_74 : decode cX12_endOne 74 = .ok (.ireturn, 1) := by decide +kernel
theorem dX12_compareOf_0 : decode cX12_compareOf 0 = .ok (.aload_n 0, 1) := by decide +kernel
theorem dX12_compareOf_1 : decode cX12_compareOf 1 = .ok (.getfield 135, 3) := by decide +kernel
theorem dX12_compareOf_4 : decode cX12_compareOf 4 = .ok (.bipush 60, 2) := by decide +kernel
theorem dX12_compareOf_6 : decode cX12_compareOf 6 = .ok (.if_icmp .ne 8, 3) := by decide +kernel
theorem dX12_compareOf_9 : decode cX12_compareOf 9 = .ok (.bipush 10, 2) := by decide +kernel
theorem dX12_compareOf_11 : decode cX12_compareOf 11 = .ok (.goto 72, 3) := by decide +kernel
theorem dX12_compareOf_14 : decode cX12_compareOf 14 = .ok (.aload_n 0, 1) := by decide +kernel
theorem dX12_compareOf_15 : decode cX12_compareOf 15 = .ok (.getfield 135, 3) := by decide +kernel
theorem dX12_compareOf_18 : decode cX12_compareOf 18 = .ok (.iconst 4, 1) := by decide +kernel
theorem dX12_compareOf_19 : decode cX12_compareOf 19 = .ok (.if_icmp .ne 8, 3) := by decide +kernel
theorem dX12_compareOf_22 : decode cX12_compareOf 22 = .ok (.bipush 11, 2) := by decide +kernel
theorem dX12_compareOf_24 : decode cX12_compareOf 24 = .ok (.goto 59, 3) := by decide +kernel
theorem dX12_compareOf_27 : decode cX12_compareOf 27 = .ok (.aload_n 0, 1) := by decide +kernel
theorem dX12_compareOf_28 : decode cX12_compareOf 28 = .ok (.getfield 135, 3) := by decide +kernel
theorem dX12_compareOf_31 : decode cX12_compareOf 31 = .ok (.bipush 62, 2) := by decide +kernel
theorem dX12_compareOf_33 : decode cX12_compareOf 33 = .ok (.if_icmp .ne 8, 3) := by decide +kernel
theorem dX12_compareOf_36 : decode cX12_compareOf 36 = .ok (.bipush 12, 2) := by decide +kernel
theorem dX12_compareOf_38 : decode cX12_compareOf 38 = .ok (.goto 45, 3) := by decide +kernel
theorem dX12_compareOf_41 : decode cX12_compareOf 41 = .ok (.aload_n 0, 1) := by decide +kernel
theorem dX12_compareOf_42 : decode cX12_compareOf 42 = .ok (.getfield 135, 3) := by decide +kernel
theorem dX12_compareOf_45 : decode cX12_compareOf 45 = .ok (.iconst 5, 1) := by decide +kernel
theorem dX12_compareOf_46 : decode cX12_compareOf 46 = .ok (.if_icmp .ne 8, 3) := by decide +kernel
theorem dX12_compareOf_49 : decode cX12_compareOf 49 = .ok (.bipush 13, 2) := by decide +kernel
theorem dX12_compareOf_51 : decode cX12_compareOf 51 = .ok (.goto 32, 3) := by decide +kernel
theorem dX12_compareOf_54 : decode cX12_compareOf 54 = .ok (.aload_n 0, 1) := by decide +kernel
theorem dX12_compareOf_55 : decode cX12_compareOf 55 = .ok (.getfield 135, 3) := by decide +kernel
theorem dX12_compareOf_58 : decode cX12_compareOf 58 = .ok (.bipush 61, 2) := by decide +kernel
theorem dX12_compareOf_60 : decode cX12_compareOf 60 = .ok (.if_icmp .ne 8, 3) := by decide +kernel
theorem dX12_compareOf_63 : decode cX12_compareOf 63 = .ok (.bipush 14, 2) := by decide +kernel
theorem dX12_compareOf_65 : decode cX12_compareOf 65 = .ok (.goto 18, 3) := by decide +kernel
theorem dX12_compareOf_68 : decode cX12_compareOf 68 = .ok (.aload_n 0, 1) := by decide +kernel
theorem dX12_compareOf_69 : decode cX12_compareOf 69 = .ok (.getfield 135, 3) := by decide +kernel
theorem dX12_compareOf_72 : decode cX12_compareOf 72 = .ok (.bipush 35, 2) := by decide +kernel
theorem dX12_compareOf_74 : decode cX12_compareOf 74 = .ok (.if_icmp .ne 8, 3) := by decide +kernel
theorem dX12_compareOf_77 : decode cX12_compareOf 77 = .ok (.bipush 15, 2) := by decide +kernel
theorem dX12_compareOf_79 : decode cX12_compareOf 79 = .ok (.goto 4, 3) := by decide +kernel
theorem dX12_compareOf_82 : decode cX12_compareOf 82 = .ok (.iconst (-1), 1) := by decide +kernel
theorem dX12_compareOf_83 : decode cX12_compareOf 83 = .ok (.ireturn, 1) := by decide +kernel
theorem dX12_betweenOf_0 : decode cX12_betweenOf 0 = .ok (.aload_n 0, 1) := by decide +kernel
theorem dX12_betweenOf_1 : decode cX12_betweenOf 1 = .ok (.getfield 135, 3) := by decide +kernel
theorem dX12_betweenOf_4 : decode cX12_betweenOf 4 = .ok (.bipush 43, 2) := by decide +kernel
theorem dX12_betweenOf_6 : decode cX12_betweenOf 6 = .ok (.if_icmp .ne 6, 3) := by decide +kernel
theorem dX12_betweenOf_9 : decode cX12_betweenOf 9 = .ok (.bipush 6, 2) := by decide +kernel
theorem dX12_betweenOf_11 : decode cX12_betweenOf 11 = .ok (.ireturn, 1) := by decide +kernel
theorem dX12_betweenOf_12 : decode cX12_betweenOf 12 = .ok (.aload_n 0, 1) := by decide +kernel
theorem dX12_betweenOf_13 : decode cX12_betweenOf 13 = .ok (.getfield 135, 3) := by decide +kernel
theorem dX12_betweenOf_16 : decode cX12_betweenOf 16 = .ok (.bipush 45, 2) := by decide +kernel
theorem dX12_betweenOf_18 : decode cX12_betweenOf 18 = .ok (.if_icmp .ne 6, 3) := by decide +kernel
theorem dX12_betweenOf_21 : decode cX12_betweenOf 21 = .ok (.bipush 7, 2) := by decide +kernel
theorem dX12_betweenOf_23 : decode cX12_betweenOf 23 = .ok (.ireturn, 1) := by decide +kernel
theorem dX12_betweenOf_24 : decode cX12_betweenOf 24 = .ok (.aload_n 0, 1) := by decide +kernel
theorem dX12_betweenOf_25 : decode cX12_betweenOf 25 = .ok (.getfield 135, 3) := by decide +kernel
theorem dX12_betweenOf_28 : decode cX12_betweenOf 28 = .ok (.bipush 42, 2) := by decide +kernel
theorem dX12_betweenOf_30 : decode cX12_betweenOf 30 = .ok (.if_icmp .ne 6, 3) := by decide +kernel
theorem dX12_betweenOf_33 : decode cX12_betweenOf 33 = .ok (.bipush 8, 2) := by decide +kernel
theorem dX12_betweenOf_35 : decode cX12_betweenOf 35 = .ok (.ireturn, 1) := by decide +kernel
theorem dX12_betweenOf_36 : decode cX12_betweenOf 36 = .ok (.aload_n 0, 1) := by decide +kernel
theorem dX12_betweenOf_37 : decode cX12_betweenOf 37 = .ok (.getfield 135, 3) := by decide +kernel
theorem dX12_betweenOf_40 : decode cX12_betweenOf 40 = .ok (.bipush 47, 2) := by decide +kernel
theorem dX12_betweenOf_42 : decode cX12_betweenOf 42 = .ok (.if_icmp .ne 6, 3) := by decide +kernel
theorem dX12_betweenOf_45 : decode cX12_betweenOf 45 = .ok (.bipush 9, 2) := by decide +kernel
theorem dX12_betweenOf_47 : decode cX12_betweenOf 47 = .ok (.ireturn, 1) := by decide +kernel
theorem dX12_betweenOf_48 : decode cX12_betweenOf 48 = .ok (.aload_n 0, 1) := by decide +kernel
theorem dX12_betweenOf_49 : decode cX12_betweenOf 49 = .ok (.invokevirtual 200, 3) := by decide +kernel
theorem dX12_betweenOf_52 : decode cX12_betweenOf 52 = .ok (.bipush 42, 2) := by decide +kernel
theorem dX12_betweenOf_54 : decode cX12_betweenOf 54 = .ok (.if_icmp .eq 5, 3) := by decide +kernel
theorem dX12_betweenOf_57 : decode cX12_betweenOf 57 = .ok (.iconst (-1), 1) := by decide +kernel
theorem dX12_betweenOf_58 : decode cX12_betweenOf 58 = .ok (.ireturn, 1) := by decide +kernel
theorem dX12_betweenOf_59 : decode cX12_betweenOf 59 = .ok (.aload_n 0, 1) := by decide +kernel
theorem dX12_betweenOf_60 : decode cX12_betweenOf 60 = .ok (.invokevirtual 232, 3) := by decide +kernel
theorem dX12_betweenOf_63 : decode cX12_betweenOf 63 = .ok (.ifCond .ne 8, 3) := by decide +kernel
theorem dX12_betweenOf_66 : decode cX12_betweenOf 66 = .ok (.aload_n 0, 1) := by decide +kernel
theorem dX12_betweenOf_67 : decode cX12_betweenOf 67 = .ok (.invokevirtual 235, 3) := by decide +kernel
theorem dX12_betweenOf_70 : decode cX12_betweenOf 70 = .ok (.ireturn, 1) := by decide +kernel
theorem dX12_betweenOf_71 : decode cX12_betweenOf 71 = .ok (.aload_n 0, 1) := by decide +kernel
theorem dX12_betweenOf_72 : decode cX12_betweenOf 72 = .ok (.bipush 97, 2) := by decide +kernel
theorem dX12_betweenOf_74 : decode cX12_betweenOf 74 = .ok (.bipush 110, 2) := by decide +kernel
theorem dX12_betweenOf_76 : decode cX12_betweenOf 76 = .ok (.bipush 100, 2) := by decide +kernel
theorem dX12_betweenOf_78 : decode cX12_betweenOf 78 = .ok (.invokestatic 161, 3) := by decide +kernel
theorem dX12_betweenOf_81 : decode cX12_betweenOf 81 = .ok (.invokevirtual 218, 3) := by decide +kernel
theorem dX12_betweenOf_84 : decode cX12_betweenOf 84 = .ok (.ifCond .eq 8, 3) := by decide +kernel
theorem dX12_betweenOf_87 : decode cX12_betweenOf 87 = .ok (.bipush 21, 2) := by decide +kernel
theorem dX12_betweenOf_89 : decode cX12_betweenOf 89 = .ok (.goto 23, 3) := by decide +kernel
theorem dX12_betweenOf_92 : decode cX12_betweenOf 92 = .ok (.aload_n 0, 1) := by decide +kernel
theorem dX12_betweenOf_93 : decode cX12_betweenOf 93 = .ok (.bipush 111, 2) := by decide +kernel
theorem dX12_betweenOf_95 : decode cX12_betweenOf 95 = .ok (.bipush 114, 2) := by decide +kernel
theorem dX12_betweenOf_97 : decode cX12_betweenOf 97 = .ok (.invokestatic 157, 3) := by decide +kernel
theorem dX12_betweenOf_100 : decode cX12_betweenOf 100 = .ok (.invokevirtual 218, 3) := by decide +kernel
theorem dX12_betweenOf_103 : decode cX12_betweenOf 103 = .ok (.ifCond .eq 8, 3) := by decide +kernel
theorem dX12_betweenOf_106 : decode cX12_betweenOf 106 = .ok (.bipush 22, 2) := by decide +kernel
theorem dX12_betweenOf_108 : decode cX12_betweenOf 108 = .ok (.goto 4, 3) := by decide +kernel
theorem dX12_betweenOf_111 : decode cX12_betweenOf 111 = .ok (.iconst (-1), 1) := by decide +kernel
theorem dX12_betweenOf_112 : decode cX12_betweenOf 112 = .ok (.ireturn, 1) := by decide +kernel
theorem dX12_partOf_0 : decode cX12_partOf 0 = .ok (.iload_n 1, 1) := by decide +kernel
theorem dX12_partOf_1 : decode cX12_partOf 1 = .ok (.tableswitch 129 40 44 #[35, 129, 50, 82, 107], 35) := by decide +kernel
theorem dX12_partOf_36 : decode cX12_partOf 36 = .ok (.aload_n 0, 1) := by decide +kernel
theorem dX12_partOf_37 : decode cX12_partOf 37 = .ok (.getfield 135, 3) := by decide +kernel
theorem dX12_partOf_40 : decode cX12_partOf 40 = .ok (.bipush 41, 2) := by decide +kernel
theorem dX12_partOf_42 : decode cX12_partOf 42 = .ok (.if_icmp .ne 7, 3) := by decide +kernel
theorem dX12_partOf_45 : decode cX12_partOf 45 = .ok (.iconst 0, 1) := by decide +kernel
theorem dX12_partOf_46 : decode cX12_partOf 46 = .ok (.goto 4, 3) := by decide +kernel
theorem dX12_partOf_49 : decode cX12_partOf 49 = .ok (.iconst (-1), 1) := by decide +kernel
theorem dX12_partOf_50 : decode cX12_partOf 50 = .ok (.ireturn, 1) := by decide +kernel
theorem dX12_partOf_51 : decode cX12_partOf 51 = .ok (.aload_n 0, 1) := by decide +kernel
theorem dX12_partOf_52 : decode cX12_partOf 52 = .ok (.bipush 116, 2) := by decide +kernel
theorem dX12_partOf_54 : decode cX12_partOf 54 = .ok (.bipush 104, 2) := by decide +kernel
theorem dX12_partOf_56 : decode cX12_partOf 56 = .ok (.bipush 101, 2) := by decide +kernel
theorem dX12_partOf_58 : decode cX12_partOf 58 = .ok (.bipush 110, 2) := by decide +kernel
theorem dX12_partOf_60 : decode cX12_partOf 60 = .ok (.invokestatic 165, 3) := by decide +kernel
theorem dX12_partOf_63 : decode cX12_partOf 63 = .ok (.invokevirtual 218, 3) := by decide +kernel
theorem dX12_partOf_66 : decode cX12_partOf 66 = .ok (.ifCond .eq 15, 3) := by decide +kernel
theorem dX12_partOf_69 : decode cX12_partOf 69 = .ok (.aload_n 0, 1) := by decide +kernel
theorem dX12_partOf_70 : decode cX12_partOf 70 = .ok (.invokevirtual 232, 3) := by decide +kernel
theorem dX12_partOf_73 : decode cX12_partOf 73 = .ok (.ifCond .eq 8, 3) := by decide +kernel
theorem dX12_partOf_76 : decode cX12_partOf 76 = .ok (.bipush 43, 2) := by decide +kernel
theorem dX12_partOf_78 : decode cX12_partOf 78 = .ok (.goto 4, 3) := by decide +kernel
theorem dX12_partOf_81 : decode cX12_partOf 81 = .ok (.iconst (-1), 1) := by decide +kernel
theorem dX12_partOf_82 : decode cX12_partOf 82 = .ok (.ireturn, 1) := by decide +kernel
theorem dX12_partOf_83 : decode cX12_partOf 83 = .ok (.aload_n 0, 1) := by decide +kernel
theorem dX12_partOf_84 : decode cX12_partOf 84 = .ok (.bipush 101, 2) := by decide +kernel
theorem dX12_partOf_86 : decode cX12_partOf 86 = .ok (.bipush 108, 2) := by decide +kernel
theorem dX12_partOf_88 : decode cX12_partOf 88 = .ok (.bipush 115, 2) := by decide +kernel
theorem dX12_partOf_90 : decode cX12_partOf 90 = .ok (.bipush 101, 2) := by decide +kernel
theorem dX12_partOf_92 : decode cX12_partOf 92 = .ok (.invokestatic 165, 3) := by decide +kernel
theorem dX12_partOf_95 : decode cX12_partOf 95 = .ok (.invokevirtual 218, 3) := by decide +kernel
theorem dX12_partOf_98 : decode cX12_partOf 98 = .ok (.ifCond .eq 8, 3) := by decide +kernel
theorem dX12_partOf_101 : decode cX12_partOf 101 = .ok (.bipush 44, 2) := by decide +kernel
theorem dX12_partOf_103 : decode cX12_partOf 103 = .ok (.goto 4, 3) := by decide +kernel
theorem dX12_partOf_106 : decode cX12_partOf 106 = .ok (.iconst (-1), 1) := by decide +kernel
theorem dX12_partOf_107 : decode cX12_partOf 107 = .ok (.ireturn, 1) := by decide +kernel
theorem dX12_partOf_108 : decode cX12_partOf 108 = .ok (.aload_n 0, 1) := by decide +kernel
theorem dX12_partOf_109 : decode cX12_partOf 109 = .ok (.bipush 101, 2) := by decide +kernel
theorem dX12_partOf_111 : decode cX12_partOf 111 = .ok (.bipush 110, 2) := by decide +kernel
theorem dX12_partOf_113 : decode cX12_partOf 113 = .ok (.bipush 100, 2) := by decide +kernel
theorem dX12_partOf_115 : decode cX12_partOf 115 = .ok (.invokestatic 161, 3) := by decide +kernel
theorem dX12_partOf_118 : decode cX12_partOf 118 = .ok (.invokevirtual 218, 3) := by decide +kernel
theorem dX12_partOf_121 : decode cX12_partOf 121 = .ok (.ifCond .eq 7, 3) := by decide +kernel
theorem dX12_partOf_124 : decode cX12_partOf 124 = .ok (.iconst 0, 1) := by decide +kernel
theorem dX12_partOf_125 : decode cX12_partOf 125 = .ok (.goto 4, 3) := by decide +kernel
theorem dX12_partOf_128 : decode cX12_partOf 128 = .ok (.iconst (-1), 1) := by decide +kernel
theorem dX12_partOf_129 : decode cX12_partOf 129 = .ok (.ireturn, 1) := by decide +kernel
theorem dX12_partOf_130 : decode cX12_partOf 130 = .ok (.iconst (-1), 1) := by decide +kernel
theorem dX12_partOf_131 : decode cX12_partOf 131 = .ok (.ireturn, 1) := by decide +kernel
theorem dX12_behindOne_0 : decode cX12_behindOne 0 = .ok (.aload_n 0, 1) := by decide +kernel
theorem dX12_behindOne_1 : decode cX12_behindOne 1 = .ok (.invokevirtual 238, 3) := by decide +kernel
theorem dX12_behindOne_4 : decode cX12_behindOne 4 = .ok (.istore_n 1, 1) := by decide +kernel
theorem dX12_behindOne_5 : decode cX12_behindOne 5 = .ok (.iload_n 1, 1) := by decide +kernel
theorem dX12_behindOne_6 : decode cX12_behindOne 6 = .ok (.ifCond .lt 54, 3) := by decide +kernel
theorem dX12_behindOne_9 : decode cX12_behindOne 9 = .ok (.aload_n 0, 1) := by decide +kernel
theorem dX12_behindOne_10 : decode cX12_behindOne 10 = .ok (.iload_n 1, 1) := by decide +kernel
theorem dX12_behindOne_11 : decode cX12_behindOne 11 = .ok (.invokestatic 186, 3) := by decide +kernel
theorem dX12_behindOne_14 : decode cX12_behindOne 14 = .ok (.iconst 4, 1) := by decide +kernel
theorem dX12_behindOne_15 : decode cX12_behindOne 15 = .ok (.if_icmp .ne 7, 3) := by decide +kernel
theorem dX12_behindOne_18 : decode cX12_behindOne 18 = .ok (.iconst 5, 1) := by decide +kernel
theorem dX12_behindOne_19 : decode cX12_behindOne 19 = .ok (.goto 7, 3) := by decide +kernel
theorem dX12_behindOne_22 : decode cX12_behindOne 22 = .ok (.iload_n 1, 1) := by decide +kernel
theorem dX12_behindOne_23 : decode cX12_behindOne 23 = .ok (.invokestatic 186, 3) := by decide +kernel
theorem dX12_behindOne_26 : decode cX12_behindOne 26 = .ok (.invokevirtual 226, 3) := by decide +kernel
theorem dX12_behindOne_29 : decode cX12_behindOne 29 = .ok (.aload_n 0, 1) := by decide +kernel
theorem dX12_behindOne_30 : decode cX12_behindOne 30 = .ok (.getfield 29, 3) := by decide +kernel
theorem dX12_behindOne_33 : decode cX12_behindOne 33 = .ok (.aload_n 0, 1) := by decide +kernel
theorem dX12_behindOne_34 : decode cX12_behindOne 34 = .ok (.getfield 183, 3) := by decide +kernel
theorem dX12_behindOne_37 : decode cX12_behindOne 37 = .ok (.iload_n 1, 1) := by decide +kernel
theorem dX12_behindOne_38 : decode cX12_behindOne 38 = .ok (.iastore, 1) := by decide +kernel
theorem dX12_behindOne_39 : decode cX12_behindOne 39 = .ok (.aload_n 0, 1) := by decide +kernel
theorem dX12_behindOne_40 : decode cX12_behindOne 40 = .ok (.dup, 1) := by decide +kernel
theorem dX12_behindOne_41 : decode cX12_behindOne 41 = .ok (.getfield 183, 3) := by decide +kernel
theorem dX12_behindOne_44 : decode cX12_behindOne 44 = .ok (.iconst 1, 1) := by decide +kernel
theorem dX12_behindOne_45 : decode cX12_behindOne 45 = .ok (.iadd, 1) := by decide +kernel
theorem dX12_behindOne_46 : decode cX12_behindOne 46 = .ok (.putfield 183, 3) := by decide +kernel
theorem dX12_behindOne_49 : decode cX12_behindOne 49 = .ok (.aload_n 0, 1) := by decide +kernel
theorem dX12_behindOne_50 : decode cX12_behindOne 50 = .ok (.iconst 0, 1) := by decide +kernel
theorem dX12_behindOne_51 : decode cX12_behindOne 51 = .ok (.putfield 229, 3) := by decide +kernel
theorem dX12_behindOne_54 : decode cX12_behindOne 54 = .ok (.aload_n 0, 1) := by decide +kernel
theorem dX12_behindOne_55 : decode cX12_behindOne 55 = .ok (.invokevirtual 203, 3) := by decide +kernel
theorem dX12_behindOne_58 : decode cX12_behindOne 58 = .ok (.iconst 0, 1) := by decide +kernel
theorem dX12_behindOne_59 : decode cX12_behindOne 59 = .ok (.ireturn, 1) := by decide +kernel
theorem dX12_behindOne_60 : decode cX12_behindOne 60 = .ok (.aload_n 0, 1) := by decide +kernel
theorem dX12_behindOne_61 : decode cX12_behindOne 61 = .ok (.invokevirtual 200, 3) := by decide +kernel
theorem dX12_behindOne_64 : decode cX12_behindOne 64 = .ok (.istore_n 2, 1) := by decide +kernel
theorem dX12_behindOne_65 : decode cX12_behindOne 65 = .ok (.aload_n 0, 1) := by decide +kernel
theorem dX12_behindOne_66 : decode cX12_behindOne 66 = .ok (.iload_n 2, 1) := by decide +kernel
theorem dX12_behindOne_67 : decode cX12_behindOne 67 = .ok (.invokevirtual 241, 3) := by decide +kernel
theorem dX12_behindOne_70 : decode cX12_behindOne 70 = .ok (.istore_n 3, 1) := by decide +kernel
theorem dX12_behindOne_71 : decode cX12_behindOne 71 = .ok (.iload_n 3, 1) := by decide +kernel
theorem dX12_behindOne_72 : decode cX12_behindOne 72 = .ok (.ifCond .ge 5, 3) := by decide +kernel
theorem dX12_behindOne_75 : decode cX12_behindOne 75 = .ok (.iconst (-1), 1) := by decide +kernel
theorem dX12_behindOne_76 : decode cX12_behindOne 76 = .ok (.ireturn, 1) := by decide +kernel
theorem dX12_behindOne_77 : decode cX12_behindOne 77 = .ok (.aload_n 0, 1) := by decide +kernel
theorem dX12_behindOne_78 : decode cX12_behindOne 78 = .ok (.iconst 1, 1) := by decide +kernel
theorem dX12_behindOne_79 : decode cX12_behindOne 79 = .ok (.invokevirtual 226, 3) := by decide +kernel
theorem dX12_behindOne_82 : decode cX12_behindOne 82 = .ok (.aload_n 0, 1) := by decide +kernel
theorem dX12_behindOne_83 : decode cX12_behindOne 83 = .ok (.invokevirtual 203, 3) := by decide +kernel
theorem dX12_behindOne_86 : decode cX12_behindOne 86 = .ok (.iload_n 3, 1) := by decide +kernel
theorem dX12_behindOne_87 : decode cX12_behindOne 87 = .ok (.ifCond .ne 40, 3) := by decide +kernel
theorem dX12_behindOne_90 : decode cX12_behindOne 90 = .ok (.aload_n 0, 1) := by decide +kernel
theorem dX12_behindOne_91 : decode cX12_behindOne 91 = .ok (.dup, 1) := by decide +kernel
theorem dX12_behindOne_92 : decode cX12_behindOne 92 = .ok (.getfield 193, 3) := by decide +kernel
theorem dX12_behindOne_95 : decode cX12_behindOne 95 = .ok (.iconst 1, 1) := by decide +kernel
theorem dX12_behindOne_96 : decode cX12_behindOne 96 = .ok (.isub, 1) := by decide +kernel
theorem dX12_behindOne_97 : decode cX12_behindOne 97 = .ok (.putfield 193, 3) := by decide +kernel
theorem dX12_behindOne_100 : decode cX12_behindOne 100 = .ok (.aload_n 0, 1) := by decide +kernel
theorem dX12_behindOne_101 : decode cX12_behindOne 101 = .ok (.dup, 1) := by decide +kernel
theorem dX12_behindOne_102 : decode cX12_behindOne 102 = .ok (.getfield 183, 3) := by decide +kernel
theorem dX12_behindOne_105 : decode cX12_behindOne 105 = .ok (.iconst 1, 1) := by decide +kernel
theorem dX12_behindOne_106 : decode cX12_behindOne 106 = .ok (.isub, 1) := by decide +kernel
theorem dX12_behindOne_107 : decode cX12_behindOne 107 = .ok (.putfield 183, 3) := by decide +kernel
theorem dX12_behindOne_110 : decode cX12_behindOne 110 = .ok (.iload_n 2, 1) := by decide +kernel
theorem dX12_behindOne_111 : decode cX12_behindOne 111 = .ok (.bipush 44, 2) := by decide +kernel
theorem dX12_behindOne_113 : decode cX12_behindOne 113 = .ok (.if_icmp .ne 9, 3) := by decide +kernel
theorem dX12_behindOne_116 : decode cX12_behindOne 116 = .ok (.aload_n 0, 1) := by decide +kernel
theorem dX12_behindOne_117 : decode cX12_behindOne 117 = .ok (.iconst 3, 1) := by decide +kernel
theorem dX12_behindOne_118 : decode cX12_behindOne 118 = .ok (.iconst 0, 1) := by decide +kernel
theorem dX12_behindOne_119 : decode cX12_behindOne 119 = .ok (.invokevirtual 189, 3) := by decide +kernel
theorem dX12_behindOne_122 : decode cX12_behindOne 122 = .ok (.aload_n 0, 1) := by decide +kernel
theorem dX12_behindOne_123 : decode cX12_behindOne 123 = .ok (.invokevirtual 212, 3) := by decide +kernel
theorem dX12_behindOne_126 : decode cX12_behindOne 126 = .ok (.ireturn, 1) := by decide +kernel
theorem dX12_behindOne_127 : decode cX12_behindOne 127 = .ok (.aload_n 0, 1) := by decide +kernel
theorem dX12_behindOne_128 : decode cX12_behindOne 128 = .ok (.getfield 29, 3) := by decide +kernel
theorem dX12_behindOne_131 : decode cX12_behindOne 131 = .ok (.aload_n 0, 1) := by decide +kernel
theorem dX12_behindOne_132 : decode cX12_behindOne 132 = .ok (.invokevirtual 196, 3) := by decide +kernel
theorem dX12_behindOne_135 : decode cX12_behindOne 135 = .ok (.iload_n 3, 1) := by decide +kernel
theorem dX12_behindOne_136 : decode cX12_behindOne 136 = .ok (.iastore, 1) := by decide +kernel
theorem dX12_behindOne_137 : decode cX12_behindOne 137 = .ok (.aload_n 0, 1) := by decide +kernel
theorem dX12_behindOne_138 : decode cX12_behindOne 138 = .ok (.iconst 0, 1) := by decide +kernel
theorem dX12_behindOne_139 : decode cX12_behindOne 139 = .ok (.putfield 229, 3) := by decide +kernel
theorem dX12_behindOne_142 : decode cX12_behindOne 142 = .ok (.iconst 0, 1) := by decide +kernel
theorem dX12_behindOne_143 : decode cX12_behindOne 143 = .ok (.ireturn, 1) := by decide +kernel
theorem dX12_summed_0 : decode cX12_summed 0 = .ok (.aload_n 0, 1) := by decide +kernel
theorem dX12_summed_1 : decode cX12_summed 1 = .ok (.iconst 0, 1) := by decide +kernel
theorem dX12_summed_2 : decode cX12_summed 2 = .ok (.putfield 183, 3) := by decide +kernel
theorem dX12_summed_5 : decode cX12_summed 5 = .ok (.aload_n 0, 1) := by decide +kernel
theorem dX12_summed_6 : decode cX12_summed 6 = .ok (.iconst 0, 1) := by decide +kernel
theorem dX12_summed_7 : decode cX12_summed 7 = .ok (.putfield 193, 3) := by decide +kernel
theorem dX12_summed_10 : decode cX12_summed 10 = .ok (.aload_n 0, 1) := by decide +kernel
theorem dX12_summed_11 : decode cX12_summed 11 = .ok (.iconst 0, 1) := by decide +kernel
theorem dX12_summed_12 : decode cX12_summed 12 = .ok (.putfield 229, 3) := by decide +kernel
theorem dX12_summed_15 : decode cX12_summed 15 = .ok (.aload_n 0, 1) := by decide +kernel
theorem dX12_summed_16 : decode cX12_summed 16 = .ok (.getfield 229, 3) := by decide +kernel
theorem dX12_summed_19 : decode cX12_summed 19 = .ok (.ifCond .eq 10, 3) := by decide +kernel
theorem dX12_summed_22 : decode cX12_summed 22 = .ok (.aload_n 0, 1) := by decide +kernel
theorem dX12_summed_23 : decode cX12_summed 23 = .ok (.invokevirtual 244, 3) := by decide +kernel
theorem dX12_summed_26 : decode cX12_summed 26 = .ok (.goto 7, 3) := by decide +kernel
theorem dX12_summed_29 : decode cX12_summed 29 = .ok (.aload_n 0, 1) := by decide +kernel
theorem dX12_summed_30 : decode cX12_summed 30 = .ok (.invokevirtual 247, 3) := by decide +kernel
theorem dX12_summed_33 : decode cX12_summed 33 = .ok (.istore_n 1, 1) := by decide +kernel
theorem dX12_summed_34 : decode cX12_summed 34 = .ok (.iload_n 1, 1) := by decide +kernel
theorem dX12_summed_35 : decode cX12_summed 35 = .ok (.ifCond .le 5, 3) := by decide +kernel
theorem dX12_summed_38 : decode cX12_summed 38 = .ok (.iload_n 1, 1) := by decide +kernel
theorem dX12_summed_39 : decode cX12_summed 39 = .ok (.ireturn, 1) := by decide +kernel
theorem dX12_summed_40 : decode cX12_summed 40 = .ok (.iload_n 1, 1) := by decide +kernel
theorem dX12_summed_41 : decode cX12_summed 41 = .ok (.ifCond .ne 6, 3) := by decide +kernel
theorem dX12_summed_44 : decode cX12_summed 44 = .ok (.goto (-29), 3) := by decide +kernel
theorem dX12_summed_47 : decode cX12_summed 47 = .ok (.aload_n 0, 1) := by decide +kernel
theorem dX12_summed_48 : decode cX12_summed 48 = .ok (.invokevirtual 200, 3) := by decide +kernel
theorem dX12_summed_51 : decode cX12_summed 51 = .ok (.ifCond .lt 5, 3) := by decide +kernel
theorem dX12_summed_54 : decode cX12_summed 54 = .ok (.iconst 1, 1) := by decide +kernel
theorem dX12_summed_55 : decode cX12_summed 55 = .ok (.ireturn, 1) := by decide +kernel
theorem dX12_summed_56 : decode cX12_summed 56 = .ok (.aload_n 0, 1) := by decide +kernel
theorem dX12_summed_57 : decode cX12_summed 57 = .ok (.iconst 1, 1) := by decide +kernel
theorem dX12_summed_58 : decode cX12_summed 58 = .ok (.invokevirtual 226, 3) := by decide +kernel
theorem dX12_summed_61 : decode cX12_summed 61 = .ok (.iconst 0, 1) := by decide +kernel
theorem dX12_summed_62 : decode cX12_summed 62 = .ok (.ireturn, 1) := by decide +kernel
theorem dX12_figure_0 : decode cX12_figure 0 = .ok (.aload_n 0, 1) := by decide +kernel
theorem dX12_figure_1 : decode cX12_figure 1 = .ok (.getfield 135, 3) := by decide +kernel
theorem dX12_figure_4 : decode cX12_figure 4 = .ok (.iconst 1, 1) := by decide +kernel
theorem dX12_figure_5 : decode cX12_figure 5 = .ok (.if_icmp .eq 5, 3) := by decide +kernel
theorem dX12_figure_8 : decode cX12_figure 8 = .ok (.iconst 1, 1) := by decide +kernel
theorem dX12_figure_9 : decode cX12_figure 9 = .ok (.ireturn, 1) := by decide +kernel
theorem dX12_figure_10 : decode cX12_figure 10 = .ok (.aload_n 0, 1) := by decide +kernel
theorem dX12_figure_11 : decode cX12_figure 11 = .ok (.getfield 141, 3) := by decide +kernel
theorem dX12_figure_14 : decode cX12_figure 14 = .ok (.iload_n 2, 1) := by decide +kernel
theorem dX12_figure_15 : decode cX12_figure 15 = .ok (.iload_n 3, 1) := by decide +kernel
theorem dX12_figure_16 : decode cX12_figure 16 = .ok (.invokestatic 87, 3) := by decide +kernel
theorem dX12_figure_19 : decode cX12_figure 19 = .ok (.ifCond .ne 5, 3) := by decide +kernel
theorem dX12_figure_22 : decode cX12_figure 22 = .ok (.iconst 2, 1) := by decide +kernel
theorem dX12_figure_23 : decode cX12_figure 23 = .ok (.ireturn, 1) := by decide +kernel
theorem dX12_figure_24 : decode cX12_figure 24 = .ok (.aload_n 0, 1) := by decide +kernel
theorem dX12_figure_25 : decode cX12_figure 25 = .ok (.getfield 16, 3) := by decide +kernel
theorem dX12_figure_28 : decode cX12_figure 28 = .ok (.iload_n 1, 1) := by decide +kernel
theorem dX12_figure_29 : decode cX12_figure 29 = .ok (.aload_n 0, 1) := by decide +kernel
theorem dX12_figure_30 : decode cX12_figure 30 = .ok (.getfield 141, 3) := by decide +kernel
theorem dX12_figure_33 : decode cX12_figure 33 = .ok (.iastore, 1) := by decide +kernel
theorem dX12_figure_34 : decode cX12_figure 34 = .ok (.aload_n 0, 1) := by decide +kernel
theorem dX12_figure_35 : decode cX12_figure 35 = .ok (.invokevirtual 203, 3) := by decide +kernel
theorem dX12_figure_38 : decode cX12_figure 38 = .ok (.iconst 0, 1) := by decide +kernel
theorem dX12_figure_39 : decode cX12_figure 39 = .ok (.ireturn, 1) := by decide +kernel
theorem dX12_lawClause_0 : decode cX12_lawClause 0 = .ok (.aload_n 0, 1) := by decide +kernel
theorem dX12_lawClause_1 : decode cX12_lawClause 1 = .ok (.getfield 16, 3) := by decide +kernel
theorem dX12_lawClause_4 : decode cX12_lawClause 4 = .ok (.iload_n 1, 1) := by decide +kernel
theorem dX12_lawClause_5 : decode cX12_lawClause 5 = .ok (.iconst 1, 1) := by decide +kernel
theorem dX12_lawClause_6 : decode cX12_lawClause 6 = .ok (.iadd, 1) := by decide +kernel
theorem dX12_lawClause_7 : decode cX12_lawClause 7 = .ok (.aload_n 0, 1) := by decide +kernel
theorem dX12_lawClause_8 : decode cX12_lawClause 8 = .ok (.getfield 176, 3) := by decide +kernel
theorem dX12_lawClause_11 : decode cX12_lawClause 11 = .ok (.iastore, 1) := by decide +kernel
theorem dX12_lawClause_12 : decode cX12_lawClause 12 = .ok (.aload_n 0, 1) := by decide +kernel
theorem dX12_lawClause_13 : decode cX12_lawClause 13 = .ok (.invokevirtual 250, 3) := by decide +kernel
theorem dX12_lawClause_16 : decode cX12_lawClause 16 = .ok (.istore_n 2, 1) := by decide +kernel
theorem dX12_lawClause_17 : decode cX12_lawClause 17 = .ok (.aload_n 0, 1) := by decide +kernel
theorem dX12_lawClause_18 : decode cX12_lawClause 18 = .ok (.getfield 16, 3) := by decide +kernel
theorem dX12_lawClause_21 : decode cX12_lawClause 21 = .ok (.iload_n 1, 1) := by decide +kernel
theorem dX12_lawClause_22 : decode cX12_lawClause 22 = .ok (.iconst 2, 1) := by decide +kernel
theorem dX12_lawClause_23 : decode cX12_lawClause 23 = .ok (.iadd, 1) := by decide +kernel
theorem dX12_lawClause_24 : decode cX12_lawClause 24 = .ok (.aload_n 0, 1) := by decide +kernel
theorem dX12_lawClause_25 : decode cX12_lawClause 25 = .ok (.getfield 176, 3) := by decide +kernel
theorem dX12_lawClause_28 : decode cX12_lawClause 28 = .ok (.iastore, 1) := by decide +kernel
theorem dX12_lawClause_29 : decode cX12_lawClause 29 = .ok (.iload_n 2, 1) := by decide +kernel
theorem dX12_lawClause_30 : decode cX12_lawClause 30 = .ok (.ireturn, 1) := by decide +kernel
theorem dX12_pair_0 : decode cX12_pair 0 = .ok (.aload_n 0, 1) := by decide +kernel
theorem dX12_pair_1 : decode cX12_pair 1 = .ok (.iload_n 1, 1) := by decide +kernel
theorem dX12_pair_2 : decode cX12_pair 2 = .ok (.iconst 1, 1) := by decide +kernel
theorem dX12_pair_3 : decode cX12_pair 3 = .ok (.iadd, 1) := by decide +kernel
theorem dX12_pair_4 : decode cX12_pair 4 = .ok (.iconst 0, 1) := by decide +kernel
theorem dX12_pair_5 : decode cX12_pair 5 = .ok (.iload_n 2, 1) := by decide +kernel
theorem dX12_pair_6 : decode cX12_pair 6 = .ok (.invokevirtual 253, 3) := by decide +kernel
theorem dX12_pair_9 : decode cX12_pair 9 = .ok (.istore 6, 2) := by decide +kernel
theorem dX12_pair_11 : decode cX12_pair 11 = .ok (.iload 6, 2) := by decide +kernel
theorem dX12_pair_13 : decode cX12_pair 13 = .ok (.ifCond .eq 6, 3) := by decide +kernel
theorem dX12_pair_16 : decode cX12_pair 16 = .ok (.iload 6, 2) := by decide +kernel
theorem dX12_pair_18 : decode cX12_pair 18 = .ok (.ireturn, 1) := by decide +kernel
theorem dX12_pair_19 : decode cX12_pair 19 = .ok (.aload_n 0, 1) := by decide +kernel
theorem dX12_pair_20 : decode cX12_pair 20 = .ok (.lload_n 3, 1) := by decide +kernel
theorem dX12_pair_21 : decode cX12_pair 21 = .ok (.invokevirtual 218, 3) := by decide +kernel
theorem dX12_pair_24 : decode cX12_pair 24 = .ok (.ifCond .ne 5, 3) := by decide +kernel
theorem dX12_pair_27 : decode cX12_pair 27 = .ok (.iconst 1, 1) := by decide +kernel
theorem dX12_pair_28 : decode cX12_pair 28 = .ok (.ireturn, 1) := by decide +kernel
theorem dX12_pair_29 : decode cX12_pair 29 = .ok (.aload_n 0, 1) := by decide +kernel
theorem dX12_pair_30 : decode cX12_pair 30 = .ok (.invokevirtual 203, 3) := by decide +kernel
theorem dX12_pair_33 : decode cX12_pair 33 = .ok (.aload_n 0, 1) := by decide +kernel
theorem dX12_pair_34 : decode cX12_pair 34 = .ok (.iload_n 1, 1) := by decide +kernel
theorem dX12_pair_35 : decode cX12_pair 35 = .ok (.iconst 2, 1) := by decide +kernel
theorem dX12_pair_36 : decode cX12_pair 36 = .ok (.iadd, 1) := by decide +kernel
theorem dX12_pair_37 : decode cX12_pair 37 = .ok (.iconst 0, 1) := by decide +kernel
theorem dX12_pair_38 : decode cX12_pair 38 = .ok (.iload 5, 2) := by decide +kernel
theorem dX12_pair_40 : decode cX12_pair 40 = .ok (.invokevirtual 253, 3) := by decide +kernel
theorem dX12_pair_43 : decode cX12_pair 43 = .ok (.ireturn, 1) := by decide +kernel
theorem dX12_body_0 : decode cX12_body 0 = .ok (.iload_n 1, 1) := by decide +kernel
theorem dX12_body_1 : decode cX12_body 1 = .ok (.tableswitch 135 2 9 #[47, 58, 75, 86, 102, 112, 122, 124], 47) := by decide +kernel
theorem dX12_body_48 : decode cX12_body 48 = .ok (.aload_n 0, 1) := by decide +kernel
theorem dX12_body_49 : decode cX12_body 49 = .ok (.iload_n 2, 1) := by decide +kernel
theorem dX12_body_50 : decode cX12_body 50 = .ok (.iconst 1, 1) := by decide +kernel
theorem dX12_body_51 : decode cX12_body 51 = .ok (.iadd, 1) := by decide +kernel
theorem dX12_body_52 : decode cX12_body 52 = .ok (.iconst 0, 1) := by decide +kernel
theorem dX12_body_53 : decode cX12_body 53 = .ok (.bipush 29, 2) := by decide +kernel
theorem dX12_body_55 : decode cX12_body 55 = .ok (.invokevirtual 253, 3) := by decide +kernel
theorem dX12_body_58 : decode cX12_body 58 = .ok (.ireturn, 1) := by decide +kernel
theorem dX12_body_59 : decode cX12_body 59 = .ok (.aload_n 0, 1) := by decide +kernel
theorem dX12_body_60 : decode cX12_body 60 = .ok (.iload_n 2, 1) := by decide +kernel
theorem dX12_body_61 : decode cX12_body 61 = .ok (.bipush 99, 2) := by decide +kernel
theorem dX12_body_63 : decode cX12_body 63 = .ok (.bipush 111, 2) := by decide +kernel
theorem dX12_body_65 : decode cX12_body 65 = .ok (.bipush 102, 2) := by decide +kernel
theorem dX12_body_67 : decode cX12_body 67 = .ok (.invokestatic 157, 3) := by decide +kernel
theorem dX12_body_70 : decode cX12_body 70 = .ok (.bipush 29, 2) := by decide +kernel
theorem dX12_body_72 : decode cX12_body 72 = .ok (.invokevirtual 257, 3) := by decide +kernel
theorem dX12_body_75 : decode cX12_body 75 = .ok (.ireturn, 1) := by decide +kernel
theorem dX12_body_76 : decode cX12_body 76 = .ok (.aload_n 0, 1) := by decide +kernel
theorem dX12_body_77 : decode cX12_body 77 = .ok (.iload_n 2, 1) := by decide +kernel
theorem dX12_body_78 : decode cX12_body 78 = .ok (.iconst 1, 1) := by decide +kernel
theorem dX12_body_79 : decode cX12_body 79 = .ok (.iadd, 1) := by decide +kernel
theorem dX12_body_80 : decode cX12_body 80 = .ok (.iconst 0, 1) := by decide +kernel
theorem dX12_body_81 : decode cX12_body 81 = .ok (.bipush 29, 2) := by decide +kernel
theorem dX12_body_83 : decode cX12_body 83 = .ok (.invokevirtual 253, 3) := by decide +kernel
theorem dX12_body_86 : decode cX12_body 86 = .ok (.ireturn, 1) := by decide +kernel
theorem dX12_body_87 : decode cX12_body 87 = .ok (.aload_n 0, 1) := by decide +kernel
theorem dX12_body_88 : decode cX12_body 88 = .ok (.iload_n 2, 1) := by decide +kernel
theorem dX12_body_89 : decode cX12_body 89 = .ok (.iconst 4, 1) := by decide +kernel
theorem dX12_body_90 : decode cX12_body 90 = .ok (.bipush 116, 2) := by decide +kernel
theorem dX12_body_92 : decode cX12_body 92 = .ok (.bipush 111, 2) := by decide +kernel
theorem dX12_body_94 : decode cX12_body 94 = .ok (.invokestatic 157, 3) := by decide +kernel
theorem dX12_body_97 : decode cX12_body 97 = .ok (.bipush 29, 2) := by decide +kernel
theorem dX12_body_99 : decode cX12_body 99 = .ok (.invokevirtual 257, 3) := by decide +kernel
theorem dX12_body_102 : decode cX12_body 102 = .ok (.ireturn, 1) := by decide +kernel
theorem dX12_body_103 : decode cX12_body 103 = .ok (.aload_n 0, 1) := by decide +kernel
theorem dX12_body_104 : decode cX12_body 104 = .ok (.iload_n 2, 1) := by decide +kernel
theorem dX12_body_105 : decode cX12_body 105 = .ok (.iconst 1, 1) := by decide +kernel
theorem dX12_body_106 : decode cX12_body 106 = .ok (.iadd, 1) := by decide +kernel
theorem dX12_body_107 : decode cX12_body 107 = .ok (.iconst 0, 1) := by decide +kernel
theorem dX12_body_108 : decode cX12_body 108 = .ok (.iconst 4, 1) := by decide +kernel
theorem dX12_body_109 : decode cX12_body 109 = .ok (.invokevirtual 253, 3) := by decide +kernel
theorem dX12_body_112 : decode cX12_body 112 = .ok (.ireturn, 1) := by decide +kernel
theorem dX12_body_113 : decode cX12_body 113 = .ok (.aload_n 0, 1) := by decide +kernel
theorem dX12_body_114 : decode cX12_body 114 = .ok (.iload_n 2, 1) := by decide +kernel
theorem dX12_body_115 : decode cX12_body 115 = .ok (.iconst 1, 1) := by decide +kernel
theorem dX12_body_116 : decode cX12_body 116 = .ok (.iadd, 1) := by decide +kernel
theorem dX12_body_117 : decode cX12_body 117 = .ok (.iconst 0, 1) := by decide +kernel
theorem dX12_body_118 : decode cX12_body 118 = .ok (.iconst 4, 1) := by decide +kernel
theorem dX12_body_119 : decode cX12_body 119 = .ok (.invokevirtual 253, 3) := by decide +kernel
theorem dX12_body_122 : decode cX12_body 122 = .ok (.ireturn, 1) := by decide +kernel
theorem dX12_body_123 : decode cX12_body 123 = .ok (.iconst 0, 1) := by decide +kernel
theorem dX12_body_124 : decode cX12_body 124 = .ok (.ireturn, 1) := by decide +kernel
theorem dX12_body_125 : decode cX12_body 125 = .ok (.aload_n 0, 1) := by decide +kernel
theorem dX12_body_126 : decode cX12_body 126 = .ok (.iload_n 2, 1) := by decide +kernel
theorem dX12_body_127 : decode cX12_body 127 = .ok (.iconst 1, 1) := by decide +kernel
theorem dX12_body_128 : decode cX12_body 128 = .ok (.iadd, 1) := by decide +kernel
theorem dX12_body_129 : decode cX12_body 129 = .ok (.iconst 1, 1) := by decide +kernel
theorem dX12_body_130 : decode cX12_body 130 = .ok (.bipush 60, 2) := by decide +kernel
theorem dX12_body_132 : decode cX12_body 132 = .ok (.invokevirtual 253, 3) := by decide +kernel
theorem dX12_body_135 : decode cX12_body 135 = .ok (.ireturn, 1) := by decide +kernel
theorem dX12_body_136 : decode cX12_body 136 = .ok (.aload_n 0, 1) := by decide +kernel
theorem dX12_body_137 : decode cX12_body 137 = .ok (.iload_n 2, 1) := by decide +kernel
theorem dX12_body_138 : decode cX12_body 138 = .ok (.invokevirtual 261, 3) := by decide +kernel
theorem dX12_body_141 : decode cX12_body 141 = .ok (.ireturn, 1) := by decide +kernel
theorem dX12_sortOf_0 : decode cX12_sortOf 0 = .ok (.aload_n 0, 1) := by decide +kernel
theorem dX12_sortOf_1 : decode cX12_sortOf 1 = .ok (.bipush 119, 2) := by decide +kernel
theorem dX12_sortOf_3 : decode cX12_sortOf 3 = .ok (.bipush 97, 2) := by decide +kernel
theorem dX12_sortOf_5 : decode cX12_sortOf 5 = .ok (.bipush 110, 2) := by decide +kernel
theorem dX12_sortOf_7 : decode cX12_sortOf 7 = .ok (.bipush 116, 2) := by decide +kernel
theorem dX12_sortOf_9 : decode cX12_sortOf 9 = .ok (.bipush 115, 2) := by decide +kernel
theorem dX12_sortOf_11 : decode cX12_sortOf 11 = .ok (.invokestatic 169, 3) := by decide +kernel
theorem dX12_sortOf_14 : decode cX12_sortOf 14 = .ok (.invokevirtual 218, 3) := by decide +kernel
theorem dX12_sortOf_17 : decode cX12_sortOf 17 = .ok (.ifCond .eq 5, 3) := by decide +kernel
theorem dX12_sortOf_20 : decode cX12_sortOf 20 = .ok (.iconst 0, 1) := by decide +kernel
theorem dX12_sortOf_21 : decode cX12_sortOf 21 = .ok (.ireturn, 1) := by decide +kernel
theorem dX12_sortOf_22 : decode cX12_sortOf 22 = .ok (.aload_n 0, 1) := by decide +kernel
theorem dX12_sortOf_23 : decode cX12_sortOf 23 = .ok (.bipush 112, 2) := by decide +kernel
theorem dX12_sortOf_25 : decode cX12_sortOf 25 = .ok (.bipush 111, 2) := by decide +kernel
theorem dX12_sortOf_27 : decode cX12_sortOf 27 = .ok (.bipush 117, 2) := by decide +kernel
theorem dX12_sortOf_29 : decode cX12_sortOf 29 = .ok (.bipush 114, 2) := by decide +kernel
theorem dX12_sortOf_31 : decode cX12_sortOf 31 = .ok (.bipush 115, 2) := by decide +kernel
theorem dX12_sortOf_33 : decode cX12_sortOf 33 = .ok (.invokestatic 169, 3) := by decide +kernel
theorem dX12_sortOf_36 : decode cX12_sortOf 36 = .ok (.invokevirtual 218, 3) := by decide +kernel
theorem dX12_sortOf_39 : decode cX12_sortOf 39 = .ok (.ifCond .eq 5, 3) := by decide +kernel
theorem dX12_sortOf_42 : decode cX12_sortOf 42 = .ok (.iconst 1, 1) := by decide +kernel
theorem dX12_sortOf_43 : decode cX12_sortOf 43 = .ok (.ireturn, 1) := by decide +kernel
theorem dX12_sortOf_44 : decode cX12_sortOf 44 = .ok (.aload_n 0, 1) := by decide +kernel
theorem dX12_sortOf_45 : decode cX12_sortOf 45 = .ok (.bipush 112, 2) := by decide +kernel
theorem dX12_sortOf_47 : decode cX12_sortOf 47 = .ok (.bipush 101, 2) := by decide +kernel
theorem dX12_sortOf_49 : decode cX12_sortOf 49 = .ok (.bipush 114, 2) := by decide +kernel
theorem dX12_sortOf_51 : decode cX12_sortOf 51 = .ok (.bipush 115, 2) := by decide +kernel
theorem dX12_sortOf_53 : decode cX12_sortOf 53 = .ok (.bipush 111, 2) := by decide +kernel
theorem dX12_sortOf_55 : decode cX12_sortOf 55 = .ok (.bipush 110, 2) := by decide +kernel
theorem dX12_sortOf_57 : decode cX12_sortOf 57 = .ok (.invokestatic 179, 3) := by decide +kernel
theorem dX12_sortOf_60 : decode cX12_sortOf 60 = .ok (.invokevirtual 218, 3) := by decide +kernel
theorem dX12_sortOf_63 : decode cX12_sortOf 63 = .ok (.ifCond .eq 5, 3) := by decide +kernel
theorem dX12_sortOf_66 : decode cX12_sortOf 66 = .ok (.iconst 2, 1) := by decide +kernel
theorem dX12_sortOf_67 : decode cX12_sortOf 67 = .ok (.ireturn, 1) := by decide +kernel
theorem dX12_sortOf_68 : decode cX12_sortOf 68 = .ok (.aload_n 0, 1) := by decide +kernel
theorem dX12_sortOf_69 : decode cX12_sortOf 69 = .ok (.bipush 102, 2) := by decide +kernel
theorem dX12_sortOf_71 : decode cX12_sortOf 71 = .ok (.bipush 105, 2) := by decide +kernel
theorem dX12_sortOf_73 : decode cX12_sortOf 73 = .ok (.bipush 101, 2) := by decide +kernel
theorem dX12_sortOf_75 : decode cX12_sortOf 75 = .ok (.bipush 108, 2) := by decide +kernel
theorem dX12_sortOf_77 : decode cX12_sortOf 77 = .ok (.bipush 100, 2) := by decide +kernel
theorem dX12_sortOf_79 : decode cX12_sortOf 79 = .ok (.invokestatic 169, 3) := by decide +kernel
theorem dX12_sortOf_82 : decode cX12_sortOf 82 = .ok (.invokevirtual 218, 3) := by decide +kernel
theorem dX12_sortOf_85 : decode cX12_sortOf 85 = .ok (.ifCond .eq 5, 3) := by decide +kernel
theorem dX12_sortOf_88 : decode cX12_sortOf 88 = .ok (.iconst 3, 1) := by decide +kernel
theorem dX12_sortOf_89 : decode cX12_sortOf 89 = .ok (.ireturn, 1) := by decide +kernel
theorem dX12_sortOf_90 : decode cX12_sortOf 90 = .ok (.aload_n 0, 1) := by decide +kernel
theorem dX12_sortOf_91 : decode cX12_sortOf 91 = .ok (.bipush 115, 2) := by decide +kernel
theorem dX12_sortOf_93 : decode cX12_sortOf 93 = .ok (.bipush 104, 2) := by decide +kernel
theorem dX12_sortOf_95 : decode cX12_sortOf 95 = .ok (.bipush 101, 2) := by decide +kernel
theorem dX12_sortOf_97 : decode cX12_sortOf 97 = .ok (.bipush 100, 2) := by decide +kernel
theorem dX12_sortOf_99 : decode cX12_sortOf 99 = .ok (.invokestatic 165, 3) := by decide +kernel
theorem dX12_sortOf_102 : decode cX12_sortOf 102 = .ok (.invokevirtual 218, 3) := by decide +kernel
theorem dX12_sortOf_105 : decode cX12_sortOf 105 = .ok (.ifCond .eq 5, 3) := by decide +kernel
theorem dX12_sortOf_108 : decode cX12_sortOf 108 = .ok (.iconst 4, 1) := by decide +kernel
theorem dX12_sortOf_109 : decode cX12_sortOf 109 = .ok (.ireturn, 1) := by decide +kernel
theorem dX12_sortOf_110 : decode cX12_sortOf 110 = .ok (.aload_n 0, 1) := by decide +kernel
theorem dX12_sortOf_111 : decode cX12_sortOf 111 = .ok (.bipush 119, 2) := by decide +kernel
theorem dX12_sortOf_113 : decode cX12_sortOf 113 = .ok (.bipush 97, 2) := by decide +kernel
theorem dX12_sortOf_115 : decode cX12_sortOf 115 = .ok (.bipush 108, 2) := by decide +kernel
theorem dX12_sortOf_117 : decode cX12_sortOf 117 = .ok (.bipush 107, 2) := by decide +kernel
theorem dX12_sortOf_119 : decode cX12_sortOf 119 = .ok (.invokestatic 165, 3) := by decide +kernel
theorem dX12_sortOf_122 : decode cX12_sortOf 122 = .ok (.invokevirtual 218, 3) := by decide +kernel
theorem dX12_sortOf_125 : decode cX12_sortOf 125 = .ok (.ifCond .eq 5, 3) := by decide +kernel
theorem dX12_sortOf_128 : decode cX12_sortOf 128 = .ok (.iconst 5, 1) := by decide +kernel
theorem dX12_sortOf_129 : decode cX12_sortOf 129 = .ok (.ireturn, 1) := by decide +kernel
theorem dX12_sortOf_130 : decode cX12_sortOf 130 = .ok (.aload_n 0, 1) := by decide +kernel
theorem dX12_sortOf_131 : decode cX12_sortOf 131 = .ok (.bipush 104, 2) := by decide +kernel
theorem dX12_sortOf_133 : decode cX12_sortOf 133 = .ok (.bipush 97, 2) := by decide +kernel
theorem dX12_sortOf_135 : decode cX12_sortOf 135 = .ok (.bipush 116, 2) := by decide +kernel
theorem dX12_sortOf_137 : decode cX12_sortOf 137 = .ok (.invokestatic 161, 3) := by decide +kernel
theorem dX12_sortOf_140 : decode cX12_sortOf 140 = .ok (.invokevirtual 218, 3) := by decide +kernel
theorem dX12_sortOf_143 : decode cX12_sortOf 143 = .ok (.ifCond .eq 6, 3) := by decide +kernel
theorem dX12_sortOf_146 : decode cX12_sortOf 146 = .ok (.bipush 6, 2) := by decide +kernel
theorem dX12_sortOf_148 : decode cX12_sortOf 148 = .ok (.ireturn, 1) := by decide +kernel
theorem dX12_sortOf_149 : decode cX12_sortOf 149 = .ok (.aload_n 0, 1) := by decide +kernel
theorem dX12_sortOf_150 : decode cX12_sortOf 150 = .ok (.bipush 98, 2) := by decide +kernel
theorem dX12_sortOf_152 : decode cX12_sortOf 152 = .ok (.bipush 97, 2) := by decide +kernel
theorem dX12_sortOf_154 : decode cX12_sortOf 154 = .ok (.bipush 114, 2) := by decide +kernel
theorem dX12_sortOf_156 : decode cX12_sortOf 156 = .ok (.bipush 101, 2) := by decide +kernel
theorem dX12_sortOf_158 : decode cX12_sortOf 158 = .ok (.invokestatic 165, 3) := by decide +kernel
theorem dX12_sortOf_161 : decode cX12_sortOf 161 = .ok (.invokevirtual 218, 3) := by decide +kernel
theorem dX12_sortOf_164 : decode cX12_sortOf 164 = .ok (.ifCond .eq 6, 3) := by decide +kernel
theorem dX12_sortOf_167 : decode cX12_sortOf 167 = .ok (.bipush 7, 2) := by decide +kernel
theorem dX12_sortOf_169 : decode cX12_sortOf 169 = .ok (.ireturn, 1) := by decide +kernel
theorem dX12_sortOf_170 : decode cX12_sortOf 170 = .ok (.aload_n 0, 1) := by decide +kernel
theorem dX12_sortOf_171 : decode cX12_sortOf 171 = .ok (.bipush 100, 2) := by decide +kernel
theorem dX12_sortOf_173 : decode cX12_sortOf 173 = .ok (.bipush 114, 2) := by decide +kernel
theorem dX12_sortOf_175 : decode cX12_sortOf 175 = .ok (.bipush 97, 2) := by decide +kernel
theorem dX12_sortOf_177 : decode cX12_sortOf 177 = .ok (.bipush 119, 2) := by decide +kernel
theorem dX12_sortOf_179 : decode cX12_sortOf 179 = .ok (.invokestatic 165, 3) := by decide +kernel
theorem dX12_sortOf_182 : decode cX12_sortOf 182 = .ok (.invokevirtual 218, 3) := by decide +kernel
theorem dX12_sortOf_185 : decode cX12_sortOf 185 = .ok (.ifCond .eq 8, 3) := by decide +kernel
theorem dX12_sortOf_188 : decode cX12_sortOf 188 = .ok (.bipush 8, 2) := by decide +kernel
theorem dX12_sortOf_190 : decode cX12_sortOf 190 = .ok (.goto 31, 3) := by decide +kernel
theorem dX12_sortOf_193 : decode cX12_sortOf 193 = .ok (.aload_n 0, 1) := by decide +kernel
theorem dX12_sortOf_194 : decode cX12_sortOf 194 = .ok (.bipush 109, 2) := by decide +kernel
theorem dX12_sortOf_196 : decode cX12_sortOf 196 = .ok (.bipush 105, 2) := by decide +kernel
theorem dX12_sortOf_198 : decode cX12_sortOf 198 = .ok (.bipush 110, 2) := by decide +kernel
theorem dX12_sortOf_200 : decode cX12_sortOf 200 = .ok (.bipush 117, 2) := by decide +kernel
theorem dX12_sortOf_202 : decode cX12_sortOf 202 = .ok (.bipush 116, 2) := by decide +kernel
theorem dX12_sortOf_204 : decode cX12_sortOf 204 = .ok (.bipush 101, 2) := by decide +kernel
theorem dX12_sortOf_206 : decode cX12_sortOf 206 = .ok (.invokestatic 179, 3) := by decide +kernel
theorem dX12_sortOf_209 : decode cX12_sortOf 209 = .ok (.invokevirtual 218, 3) := by decide +kernel
theorem dX12_sortOf_212 : decode cX12_sortOf 212 = .ok (.ifCond .eq 8, 3) := by decide +kernel
theorem dX12_sortOf_215 : decode cX12_sortOf 215 = .ok (.bipush 9, 2) := by decide +kernel
theorem dX12_sortOf_217 : decode cX12_sortOf 217 = .ok (.goto 4, 3) := by decide +kernel
theorem dX12_sortOf_220 : decode cX12_sortOf 220 = .ok (.iconst (-1), 1) := by decide +kernel
theorem dX12_sortOf_221 : decode cX12_sortOf 221 = .ok (.ireturn, 1) := by decide +kernel
theorem dX12_clause_0 : decode cX12_clause 0 = .ok (.aload_n 0, 1) := by decide +kernel
theorem dX12_clause_1 : decode cX12_clause 1 = .ok (.invokevirtual 264, 3) := by decide +kernel
theorem dX12_clause_4 : decode cX12_clause 4 = .ok (.istore_n 1, 1) := by decide +kernel
theorem dX12_clause_5 : decode cX12_clause 5 = .ok (.iload_n 1, 1) := by decide +kernel
theorem dX12_clause_6 : decode cX12_clause 6 = .ok (.ifCond .ge 5, 3) := by decide +kernel
theorem dX12_clause_9 : decode cX12_clause 9 = .ok (.iconst 1, 1) := by decide +kernel
theorem dX12_clause_10 : decode cX12_clause 10 = .ok (.ireturn, 1) := by decide +kernel
theorem dX12_clause_11 : decode cX12_clause 11 = .ok (.iload_n 1, 1) := by decide +kernel
theorem dX12_clause_12 : decode cX12_clause 12 = .ok (.iconst 1, 1) := by decide +kernel
theorem dX12_clause_13 : decode cX12_clause 13 = .ok (.if_icmp .gt 16, 3) := by decide +kernel
theorem dX12_clause_16 : decode cX12_clause 16 = .ok (.aload_n 0, 1) := by decide +kernel
theorem dX12_clause_17 : decode cX12_clause 17 = .ok (.getfield 267, 3) := by decide +kernel
theorem dX12_clause_20 : decode cX12_clause 20 = .ok (.iload_n 1, 1) := by decide +kernel
theorem dX12_clause_21 : decode cX12_clause 21 = .ok (.invokestatic 270, 3) := by decide +kernel
theorem dX12_clause_24 : decode cX12_clause 24 = .ok (.ifCond .eq 5, 3) := by decide +kernel
theorem dX12_clause_27 : decode cX12_clause 27 = .ok (.iconst 4, 1) := by decide +kernel
theorem dX12_clause_28 : decode cX12_clause 28 = .ok (.ireturn, 1) := by decide +kernel
theorem dX12_clause_29 : decode cX12_clause 29 = .ok (.aload_n 0, 1) := by decide +kernel
theorem dX12_clause_30 : decode cX12_clause 30 = .ok (.getfield 16, 3) := by decide +kernel
theorem dX12_clause_33 : decode cX12_clause 33 = .ok (.aload_n 0, 1) := by decide +kernel
theorem dX12_clause_34 : decode cX12_clause 34 = .ok (.getfield 173, 3) := by decide +kernel
theorem dX12_clause_37 : decode cX12_clause 37 = .ok (.iaload, 1) := by decide +kernel
theorem dX12_clause_38 : decode cX12_clause 38 = .ok (.istore_n 2, 1) := by decide +kernel
theorem dX12_clause_39 : decode cX12_clause 39 = .ok (.iload_n 2, 1) := by decide +kernel
theorem dX12_clause_40 : decode cX12_clause 40 = .ok (.bipush 24, 2) := by decide +kernel
theorem dX12_clause_42 : decode cX12_clause 42 = .ok (.if_icmp .ne 6, 3) := by decide +kernel
theorem dX12_clause_45 : decode cX12_clause 45 = .ok (.bipush 6, 2) := by decide +kernel
theorem dX12_clause_47 : decode cX12_clause 47 = .ok (.ireturn, 1) := by decide +kernel
theorem dX12_clause_48 : decode cX12_clause 48 = .ok (.iload_n 1, 1) := by decide +kernel
theorem dX12_clause_49 : decode cX12_clause 49 = .ok (.iconst 1, 1) := by decide +kernel
theorem dX12_clause_50 : decode cX12_clause 50 = .ok (.if_icmp .gt 15, 3) := by decide +kernel
theorem dX12_clause_53 : decode cX12_clause 53 = .ok (.aload_n 0, 1) := by decide +kernel
theorem dX12_clause_54 : decode cX12_clause 54 = .ok (.dup, 1) := by decide +kernel
theorem dX12_clause_55 : decode cX12_clause 55 = .ok (.getfield 267, 3) := by decide +kernel
theorem dX12_clause_58 : decode cX12_clause 58 = .ok (.iconst 1, 1) := by decide +kernel
theorem dX12_clause_59 : decode cX12_clause 59 = .ok (.iload_n 1, 1) := by decide +kernel
theorem dX12_clause_60 : decode cX12_clause 60 = .ok (.ishl, 1) := by decide +kernel
theorem dX12_clause_61 : decode cX12_clause 61 = .ok (.ior, 1) := by decide +kernel
theorem dX12_clause_62 : decode cX12_clause 62 = .ok (.putfield 267, 3) := by decide +kernel
theorem dX12_clause_65 : decode cX12_clause 65 = .ok (.aload_n 0, 1) := by decide +kernel
theorem dX12_clause_66 : decode cX12_clause 66 = .ok (.iload_n 1, 1) := by decide +kernel
theorem dX12_clause_67 : decode cX12_clause 67 = .ok (.putfield 209, 3) := by decide +kernel
theorem dX12_clause_70 : decode cX12_clause 70 = .ok (.aload_n 0, 1) := by decide +kernel
theorem dX12_clause_71 : decode cX12_clause 71 = .ok (.invokevirtual 203, 3) := by decide +kernel
theorem dX12_clause_74 : decode cX12_clause 74 = .ok (.aload_n 0, 1) := by decide +kernel
theorem dX12_clause_75 : decode cX12_clause 75 = .ok (.getfield 173, 3) := by decide +kernel
theorem dX12_clause_78 : decode cX12_clause 78 = .ok (.iconst 1, 1) := by decide +kernel
theorem dX12_clause_79 : decode cX12_clause 79 = .ok (.iadd, 1) := by decide +kernel
theorem dX12_clause_80 : decode cX12_clause 80 = .ok (.iconst 3, 1) := by decide +kernel
theorem dX12_clause_81 : decode cX12_clause 81 = .ok (.iload_n 2, 1) := by decide +kernel
theorem dX12_clause_82 : decode cX12_clause 82 = .ok (.imul, 1) := by decide +kernel
theorem dX12_clause_83 : decode cX12_clause 83 = .ok (.iadd, 1) := by decide +kernel
theorem dX12_clause_84 : decode cX12_clause 84 = .ok (.istore_n 3, 1) := by decide +kernel
theorem dX12_clause_85 : decode cX12_clause 85 = .ok (.aload_n 0, 1) := by decide +kernel
theorem dX12_clause_86 : decode cX12_clause 86 = .ok (.getfield 16, 3) := by decide +kernel
theorem dX12_clause_89 : decode cX12_clause 89 = .ok (.iload_n 3, 1) := by decide +kernel
theorem dX12_clause_90 : decode cX12_clause 90 = .ok (.iload_n 1, 1) := by decide +kernel
theorem dX12_clause_91 : decode cX12_clause 91 = .ok (.iastore, 1) := by decide +kernel
theorem dX12_clause_92 : decode cX12_clause 92 = .ok (.aload_n 0, 1) := by decide +kernel
theorem dX12_clause_93 : decode cX12_clause 93 = .ok (.iload_n 1, 1) := by decide +kernel
theorem dX12_clause_94 : decode cX12_clause 94 = .ok (.iload_n 3, 1) := by decide +kernel
theorem dX12_clause_95 : decode cX12_clause 95 = .ok (.invokevirtual 274, 3) := by decide +kernel
theorem dX12_clause_98 : decode cX12_clause 98 = .ok (.istore 4, 2) := by decide +kernel
theorem dX12_clause_100 : decode cX12_clause 100 = .ok (.iload 4, 2) := by decide +kernel
theorem dX12_clause_102 : decode cX12_clause 102 = .ok (.ifCond .eq 6, 3) := by decide +kernel
theorem dX12_clause_105 : decode cX12_clause 105 = .ok (.iload 4, 2) := by decide +kernel
theorem dX12_clause_107 : decode cX12_clause 107 = .ok (.ireturn, 1) := by decide +kernel
theorem dX12_clause_108 : decode cX12_clause 108 = .ok (.aload_n 0, 1) := by decide +kernel
theorem dX12_clause_109 : decode cX12_clause 109 = .ok (.getfield 16, 3) := by decide +kernel
theorem dX12_clause_112 : decode cX12_clause 112 = .ok (.aload_n 0, 1) := by decide +kernel
theorem dX12_clause_113 : decode cX12_clause 113 = .ok (.getfield 173, 3) := by decide +kernel
theorem dX12_clause_116 : decode cX12_clause 116 = .ok (.dup2, 1) := by decide +kernel
theorem dX12_clause_117 : decode cX12_clause 117 = .ok (.iaload, 1) := by decide +kernel
theorem dX12_clause_118 : decode cX12_clause 118 = .ok (.iconst 1, 1) := by decide +kernel
theorem dX12_clause_119 : decode cX12_clause 119 = .ok (.iadd, 1) := by decide +kernel
theorem dX12_clause_120 : decode cX12_clause 120 = .ok (.iastore, 1) := by decide +kernel
theorem dX12_clause_121 : decode cX12_clause 121 = .ok (.aload_n 0, 1) := by decide +kernel
theorem dX12_clause_122 : decode cX12_clause 122 = .ok (.getfield 135, 3) := by decide +kernel
theorem dX12_clause_125 : decode cX12_clause 125 = .ok (.bipush 59, 2) := by decide +kernel
theorem dX12_clause_127 : decode cX12_clause 127 = .ok (.if_icmp .eq 5, 3) := by decide +kernel
theorem dX12_clause_130 : decode cX12_clause 130 = .ok (.iconst 1, 1) := by decide +kernel
theorem dX12_clause_131 : decode cX12_clause 131 = .ok (.ireturn, 1) := by decide +kernel
theorem dX12_clause_132 : decode cX12_clause 132 = .ok (.aload_n 0, 1) := by decide +kernel
theorem dX12_clause_133 : decode cX12_clause 133 = .ok (.invokevirtual 203, 3) := by decide +kernel
theorem dX12_clause_136 : decode cX12_clause 136 = .ok (.iconst 0, 1) := by decide +kernel
theorem dX12_clause_137 : decode cX12_clause 137 = .ok (.ireturn, 1) := by decide +kernel
theorem dX12_readText_0 : decode cX12_readText 0 = .ok (.aload_n 0, 1) := by decide +kernel
theorem dX12_readText_1 : decode cX12_readText 1 = .ok (.sipush 681, 3) := by decide +kernel
theorem dX12_readText_4 : decode cX12_readText 4 = .ok (.aload_n 0, 1) := by decide +kernel
theorem dX12_readText_5 : decode cX12_readText 5 = .ok (.getfield 7, 3) := by decide +kernel
theorem dX12_readText_8 : decode cX12_readText 8 = .ok (.iconst 1, 1) := by decide +kernel
theorem dX12_readText_9 : decode cX12_readText 9 = .ok (.iaload, 1) := by decide +kernel
theorem dX12_readText_10 : decode cX12_readText 10 = .ok (.imul, 1) := by decide +kernel
theorem dX12_readText_11 : decode cX12_readText 11 = .ok (.putfield 173, 3) := by decide +kernel
theorem dX12_readText_14 : decode cX12_readText 14 = .ok (.aload_n 0, 1) := by decide +kernel
theorem dX12_readText_15 : decode cX12_readText 15 = .ok (.getfield 16, 3) := by decide +kernel
theorem dX12_readText_18 : decode cX12_readText 18 = .ok (.aload_n 0, 1) := by decide +kernel
theorem dX12_readText_19 : decode cX12_readText 19 = .ok (.getfield 173, 3) := by decide +kernel
theorem dX12_readText_22 : decode cX12_readText 22 = .ok (.iconst 0, 1) := by decide +kernel
theorem dX12_readText_23 : decode cX12_readText 23 = .ok (.iastore, 1) := by decide +kernel
theorem dX12_readText_24 : decode cX12_readText 24 = .ok (.aload_n 0, 1) := by decide +kernel
theorem dX12_readText_25 : decode cX12_readText 25 = .ok (.iconst 0, 1) := by decide +kernel
theorem dX12_readText_26 : decode cX12_readText 26 = .ok (.putfield 176, 3) := by decide +kernel
theorem dX12_readText_29 : decode cX12_readText 29 = .ok (.aload_n 0, 1) := by decide +kernel
theorem dX12_readText_30 : decode cX12_readText 30 = .ok (.iconst 0, 1) := by decide +kernel
theorem dX12_readText_31 : decode cX12_readText 31 = .ok (.putfield 267, 3) := by decide +kernel
theorem dX12_readText_34 : decode cX12_readText 34 = .ok (.aload_n 0, 1) := by decide +kernel
theorem dX12_readText_35 : decode cX12_readText 35 = .ok (.iconst 0, 1) := by decide +kernel
theorem dX12_readText_36 : decode cX12_readText 36 = .ok (.putfield 126, 3) := by decide +kernel
theorem dX12_readText_39 : decode cX12_readText 39 = .ok (.aload_n 0, 1) := by decide +kernel
theorem dX12_readText_40 : decode cX12_readText 40 = .ok (.invokevirtual 203, 3) := by decide +kernel
theorem dX12_readText_43 : decode cX12_readText 43 = .ok (.aload_n 0, 1) := by decide +kernel
theorem dX12_readText_44 : decode cX12_readText 44 = .ok (.getfield 135, 3) := by decide +kernel
theorem dX12_readText_47 : decode cX12_readText 47 = .ok (.ifCond .eq 17, 3) := by decide +kernel
theorem dX12_readText_50 : decode cX12_readText 50 = .ok (.aload_n 0, 1) := by decide +kernel
theorem dX12_readText_51 : decode cX12_readText 51 = .ok (.invokevirtual 277, 3) := by decide +kernel
theorem dX12_readText_54 : decode cX12_readText 54 = .ok (.istore_n 1, 1) := by decide +kernel
theorem dX12_readText_55 : decode cX12_readText 55 = .ok (.iload_n 1, 1) := by decide +kernel
theorem dX12_readText_56 : decode cX12_readText 56 = .ok (.ifCond .eq 5, 3) := by decide +kernel
theorem dX12_readText_59 : decode cX12_readText 59 = .ok (.iload_n 1, 1) := by decide +kernel
theorem dX12_readText_60 : decode cX12_readText 60 = .ok (.ireturn, 1) := by decide +kernel
theorem dX12_readText_61 : decode cX12_readText 61 = .ok (.goto (-18), 3) := by decide +kernel
theorem dX12_readText_64 : decode cX12_readText 64 = .ok (.iconst 0, 1) := by decide +kernel
theorem dX12_readText_65 : decode cX12_readText 65 = .ok (.ireturn, 1) := by decide +kernel
theorem dX12_text_0 : decode cX12_text 0 = .ok (.aload_n 0, 1) := by decide +kernel
theorem dX12_text_1 : decode cX12_text 1 = .ok (.getfield 7, 3) := by decide +kernel
theorem dX12_text_4 : decode cX12_text 4 = .ok (.iconst 1, 1) := by decide +kernel
theorem dX12_text_5 : decode cX12_text 5 = .ok (.iaload, 1) := by decide +kernel
theorem dX12_text_6 : decode cX12_text 6 = .ok (.iconst 4, 1) := by decide +kernel
theorem dX12_text_7 : decode cX12_text 7 = .ok (.if_icmp .ne 5, 3) := by decide +kernel
theorem dX12_text_10 : decode cX12_text 10 = .ok (.iconst (-1), 1) := by decide +kernel
theorem dX12_text_11 : decode cX12_text 11 = .ok (.ireturn, 1) := by decide +kernel
theorem dX12_text_12 : decode cX12_text 12 = .ok (.aload_n 0, 1) := by decide +kernel
theorem dX12_text_13 : decode cX12_text 13 = .ok (.aload_n 0, 1) := by decide +kernel
theorem dX12_text_14 : decode cX12_text 14 = .ok (.invokevirtual 280, 3) := by decide +kernel
theorem dX12_text_17 : decode cX12_text 17 = .ok (.putfield 22, 3) := by decide +kernel
theorem dX12_text_20 : decode cX12_text 20 = .ok (.aload_n 0, 1) := by decide +kernel
theorem dX12_text_21 : decode cX12_text 21 = .ok (.aload_n 0, 1) := by decide +kernel
theorem dX12_text_22 : decode cX12_text 22 = .ok (.getfield 22, 3) := by decide +kernel
theorem dX12_text_25 : decode cX12_text 25 = .ok (.ifCond .ne 7, 3) := by decide +kernel
theorem dX12_text_28 : decode cX12_text 28 = .ok (.iconst (-1), 1) := by decide +kernel
theorem dX12_text_29 : decode cX12_text 29 = .ok (.goto 7, 3) := by decide +kernel
theorem dX12_text_32 : decode cX12_text 32 = .ok (.aload_n 0, 1) := by decide +kernel
theorem dX12_text_33 : decode cX12_text 33 = .ok (.getfield 132, 3) := by decide +kernel
theorem dX12_text_36 : decode cX12_text 36 = .ok (.putfield 26, 3) := by decide +kernel
theorem dX12_text_39 : decode cX12_text 39 = .ok (.aload_n 0, 1) := by decide +kernel
theorem dX12_text_40 : decode cX12_text 40 = .ok (.iconst 0, 1) := by decide +kernel
theorem dX12_text_41 : decode cX12_text 41 = .ok (.putfield 120, 3) := by decide +kernel
theorem dX12_text_44 : decode cX12_text 44 = .ok (.aload_n 0, 1) := by decide +kernel
theorem dX12_text_45 : decode cX12_text 45 = .ok (.getfield 22, 3) := by decide +kernel
theorem dX12_text_48 : decode cX12_text 48 = .ok (.ifCond .eq 5, 3) := by decide +kernel
theorem dX12_text_51 : decode cX12_text 51 = .ok (.iconst (-1), 1) := by decide +kernel
theorem dX12_text_52 : decode cX12_text 52 = .ok (.ireturn, 1) := by decide +kernel
theorem dX12_text_53 : decode cX12_text 53 = .ok (.aload_n 0, 1) := by decide +kernel
theorem dX12_text_54 : decode cX12_text 54 = .ok (.getfield 7, 3) := by decide +kernel
theorem dX12_text_57 : decode cX12_text 57 = .ok (.iconst 1, 1) := by decide +kernel
theorem dX12_text_58 : decode cX12_text 58 = .ok (.dup2, 1) := by decide +kernel
theorem dX12_text_59 : decode cX12_text 59 = .ok (.iaload, 1) := by decide +kernel
theorem dX12_text_60 : decode cX12_text 60 = .ok (.iconst 1, 1) := by decide +kernel
theorem dX12_text_61 : decode cX12_text 61 = .ok (.iadd, 1) := by decide +kernel
theorem dX12_text_62 : decode cX12_text 62 = .ok (.iastore, 1) := by decide +kernel
theorem dX12_text_63 : decode cX12_text 63 = .ok (.aload_n 0, 1) := by decide +kernel
theorem dX12_text_64 : decode cX12_text 64 = .ok (.getfield 7, 3) := by decide +kernel
theorem dX12_text_67 : decode cX12_text 67 = .ok (.iconst 1, 1) := by decide +kernel
theorem dX12_text_68 : decode cX12_text 68 = .ok (.iaload, 1) := by decide +kernel
theorem dX12_text_69 : decode cX12_text 69 = .ok (.iconst 1, 1) := by decide +kernel
theorem dX12_text_70 : decode cX12_text 70 = .ok (.isub, 1) := by decide +kernel
theorem dX12_text_71 : decode cX12_text 71 = .ok (.ireturn, 1) := by decide +kernel
theorem dX12_fault_0 : decode cX12_fault 0 = .ok (.iload_n 1, 1) := by decide +kernel
theorem dX12_fault_1 : decode cX12_fault 1 = .ok (.ifCond .ne 10, 3) := by decide +kernel
theorem dX12_fault_4 : decode cX12_fault 4 = .ok (.aload_n 0, 1) := by decide +kernel
theorem dX12_fault_5 : decode cX12_fault 5 = .ok (.getfield 22, 3) := by decide +kernel
theorem dX12_fault_8 : decode cX12_fault 8 = .ok (.goto 16, 3) := by decide +kernel
theorem dX12_fault_11 : decode cX12_fault 11 = .ok (.iload_n 1, 1) := by decide +kernel
theorem dX12_fault_12 : decode cX12_fault 12 = .ok (.iconst 1, 1) := by decide +kernel
theorem dX12_fault_13 : decode cX12_fault 13 = .ok (.if_icmp .ne 10, 3) := by decide +kernel
theorem dX12_fault_16 : decode cX12_fault 16 = .ok (.aload_n 0, 1) := by decide +kernel
theorem dX12_fault_17 : decode cX12_fault 17 = .ok (.getfield 26, 3) := by decide +kernel
theorem dX12_fault_20 : decode cX12_fault 20 = .ok (.goto 4, 3) := by decide +kernel
theorem dX12_fault_23 : decode cX12_fault 23 = .ok (.iconst (-1), 1) := by decide +kernel
theorem dX12_fault_24 : decode cX12_fault 24 = .ok (.ireturn, 1) := by decide +kernel
theorem dX12_by_0 : decode cX12_by 0 = .ok (.iload_n 1, 1) := by decide +kernel
theorem dX12_by_1 : decode cX12_by 1 = .ok (.iconst (-1), 1) := by decide +kernel
theorem dX12_by_2 : decode cX12_by 2 = .ok (.aload_n 0, 1) := by decide +kernel
theorem dX12_by_3 : decode cX12_by 3 = .ok (.getfield 7, 3) := by decide +kernel
theorem dX12_by_6 : decode cX12_by 6 = .ok (.iconst 1, 1) := by decide +kernel
theorem dX12_by_7 : decode cX12_by 7 = .ok (.iaload, 1) := by decide +kernel
theorem dX12_by_8 : decode cX12_by 8 = .ok (.iconst 1, 1) := by decide +kernel
theorem dX12_by_9 : decode cX12_by 9 = .ok (.isub, 1) := by decide +kernel
theorem dX12_by_10 : decode cX12_by 10 = .ok (.invokestatic 87, 3) := by decide +kernel
theorem dX12_by_13 : decode cX12_by 13 = .ok (.ifCond .ne 5, 3) := by decide +kernel
theorem dX12_by_16 : decode cX12_by 16 = .ok (.iconst 0, 1) := by decide +kernel
theorem dX12_by_17 : decode cX12_by 17 = .ok (.ireturn, 1) := by decide +kernel
theorem dX12_by_18 : decode cX12_by 18 = .ok (.aload_n 0, 1) := by decide +kernel
theorem dX12_by_19 : decode cX12_by 19 = .ok (.getfield 7, 3) := by decide +kernel
theorem dX12_by_22 : decode cX12_by 22 = .ok (.iconst 2, 1) := by decide +kernel
theorem dX12_by_23 : decode cX12_by 23 = .ok (.iload_n 1, 1) := by decide +kernel
theorem dX12_by_24 : decode cX12_by 24 = .ok (.iastore, 1) := by decide +kernel
theorem dX12_by_25 : decode cX12_by 25 = .ok (.iconst 1, 1) := by decide +kernel
theorem dX12_by_26 : decode cX12_by 26 = .ok (.ireturn, 1) := by decide +kernel
theorem dX12_clip_0 : decode cX12_clip 0 = .ok (.lload_n 0, 1) := by decide +kernel
theorem dX12_clip_1 : decode cX12_clip 1 = .ok (.ldc2_w 283, 3) := by decide +kernel
theorem dX12_clip_4 : decode cX12_clip 4 = .ok (.lcmp, 1) := by decide +kernel
theorem dX12_clip_5 : decode cX12_clip 5 = .ok (.ifCond .le 9, 3) := by decide +kernel
theorem dX12_clip_8 : decode cX12_clip 8 = .ok (.ldc2_w 283, 3) := by decide +kernel
theorem dX12_clip_11 : decode cX12_clip 11 = .ok (.goto 18, 3) := by decide +kernel
theorem dX12_clip_14 : decode cX12_clip 14 = .ok (.lload_n 0, 1) := by decide +kernel
theorem dX12_clip_15 : decode cX12_clip 15 = .ok (.ldc2_w 285, 3) := by decide +kernel
theorem dX12_clip_18 : decode cX12_clip 18 = .ok (.lcmp, 1) := by decide +kernel
theorem dX12_clip_19 : decode cX12_clip 19 = .ok (.ifCond .ge 9, 3) := by decide +kernel
theorem dX12_clip_22 : decode cX12_clip 22 = .ok (.ldc2_w 285, 3) := by decide +kernel
theorem dX12_clip_25 : decode cX12_clip 25 = .ok (.goto 4, 3) := by decide +kernel
theorem dX12_clip_28 : decode cX12_clip 28 = .ok (.lload_n 0, 1) := by decide +kernel
theorem dX12_clip_29 : decode cX12_clip 29 = .ok (.lreturn, 1) := by decide +kernel
theorem dX12_two_0 : decode cX12_two 0 = .ok (.iload_n 0, 1) := by decide +kernel
theorem dX12_two_1 : decode cX12_two 1 = .ok (.tableswitch 48 6 8 #[27, 34, 41], 27) := by decide +kernel
theorem dX12_two_28 : decode cX12_two 28 = .ok (.lload_n 1, 1) := by decide +kernel
theorem dX12_two_29 : decode cX12_two 29 = .ok (.lload_n 3, 1) := by decide +kernel
theorem dX12_two_30 : decode cX12_two 30 = .ok (.ladd, 1) := by decide +kernel
theorem dX12_two_31 : decode cX12_two 31 = .ok (.invokestatic 287, 3) := by decide +kernel
theorem dX12_two_34 : decode cX12_two 34 = .ok (.lreturn, 1) := by decide +kernel
theorem dX12_two_35 : decode cX12_two 35 = .ok (.lload_n 1, 1) := by decide +kernel
theorem dX12_two_36 : decode cX12_two 36 = .ok (.lload_n 3, 1) := by decide +kernel
theorem dX12_two_37 : decode cX12_two 37 = .ok (.lsub, 1) := by decide +kernel
theorem dX12_two_38 : decode cX12_two 38 = .ok (.invokestatic 287, 3) := by decide +kernel
theorem dX12_two_41 : decode cX12_two 41 = .ok (.lreturn, 1) := by decide +kernel
theorem dX12_two_42 : decode cX12_two 42 = .ok (.lload_n 1, 1) := by decide +kernel
theorem dX12_two_43 : decode cX12_two 43 = .ok (.lload_n 3, 1) := by decide +kernel
theorem dX12_two_44 : decode cX12_two 44 = .ok (.lmul, 1) := by decide +kernel
theorem dX12_two_45 : decode cX12_two 45 = .ok (.invokestatic 287, 3) := by decide +kernel
theorem dX12_two_48 : decode cX12_two 48 = .ok (.lreturn, 1) := by decide +kernel
theorem dX12_two_49 : decode cX12_two 49 = .ok (.lload_n 3, 1) := by decide +kernel
theorem dX12_two_50 : decode cX12_two 50 = .ok (.lconst 0, 1) := by decide +kernel
theorem dX12_two_51 : decode cX12_two 51 = .ok (.lcmp, 1) := by decide +kernel
theorem dX12_two_52 : decode cX12_two 52 = .ok (.ifCond .ne 7, 3) := by decide +kernel
theorem dX12_two_55 : decode cX12_two 55 = .ok (.lconst 0, 1) := by decide +kernel
theorem dX12_two_56 : decode cX12_two 56 = .ok (.goto 9, 3) := by decide +kernel
theorem dX12_two_59 : decode cX12_two 59 = .ok (.lload_n 1, 1) := by decide +kernel
theorem dX12_two_60 : decode cX12_two 60 = .ok (.lload_n 3, 1) := by decide +kernel
theorem dX12_two_61 : decode cX12_two 61 = .ok (.ldiv, 1) := by decide +kernel
theorem dX12_two_62 : decode cX12_two 62 = .ok (.invokestatic 287, 3) := by decide +kernel
theorem dX12_two_65 : decode cX12_two 65 = .ok (.lreturn, 1) := by decide +kernel
theorem dX12_isAsked_0 : decode cX12_isAsked 0 = .ok (.iload_n 0, 1) := by decide +kernel
theorem dX12_isAsked_1 : decode cX12_isAsked 1 = .ok (.bipush 10, 2) := by decide +kernel
theorem dX12_isAsked_3 : decode cX12_isAsked 3 = .ok (.if_icmp .ne 17, 3) := by decide +kernel
theorem dX12_isAsked_6 : decode cX12_isAsked 6 = .ok (.lload_n 1, 1) := by decide +kernel
theorem dX12_isAsked_7 : decode cX12_isAsked 7 = .ok (.lload_n 3, 1) := by decide +kernel
theorem dX12_isAsked_8 : decode cX12_isAsked 8 = .ok (.lcmp, 1) := by decide +kernel
theorem dX12_isAsked_9 : decode cX12_isAsked 9 = .ok (.ifCond .ge 7, 3) := by decide +kernel
theorem dX12_isAsked_12 : decode cX12_isAsked 12 = .ok (.iconst 1, 1) := by decide +kernel
theorem dX12_isAsked_13 : decode cX12_isAsked 13 = .ok (.goto 98, 3) := by decide +kernel
theorem dX12_isAsked_16 : decode cX12_isAsked 16 = .ok (.iconst 0, 1) := by decide +kernel
theorem dX12_isAsked_17 : decode cX12_isAsked 17 = .ok (.goto 94, 3) := by decide +kernel
theorem dX12_isAsked_20 : decode cX12_isAsked 20 = .ok (.iload_n 0, 1) := by decide +kernel
theorem dX12_isAsked_21 : decode cX12_isAsked 21 = .ok (.bipush 11, 2) := by decide +kernel
theorem dX12_isAsked_23 : decode cX12_isAsked 23 = .ok (.if_icmp .ne 17, 3) := by decide +kernel
theorem dX12_isAsked_26 : decode cX12_isAsked 26 = .ok (.lload_n 1, 1) := by decide +kernel
theorem dX12_isAsked_27 : decode cX12_isAsked 27 = .ok (.lload_n 3, 1) := by decide +kernel
theorem dX12_isAsked_28 : decode cX12_isAsked 28 = .ok (.lcmp, 1) := by decide +kernel
theorem dX12_isAsked_29 : decode cX12_isAsked 29 = .ok (.ifCond .gt 7, 3) := by decide +kernel
theorem dX12_isAsked_32 : decode cX12_isAsked 32 = .ok (.iconst 1, 1) := by decide +kernel
theorem dX12_isAsked_33 : decode cX12_isAsked 33 = .ok (.goto 78, 3) := by decide +kernel
theorem dX12_isAsked_36 : decode cX12_isAsked 36 = .ok (.iconst 0, 1) := by decide +kernel
theorem dX12_isAsked_37 : decode cX12_isAsked 37 = .ok (.goto 74, 3) := by decide +kernel
theorem dX12_isAsked_40 : decode cX12_isAsked 40 = .ok (.iload_n 0, 1) := by decide +kernel
theorem dX12_isAsked_41 : decode cX12_isAsked 41 = .ok (.bipush 12, 2) := by decide +kernel
theorem dX12_isAsked_43 : decode cX12_isAsked 43 = .ok (.if_icmp .ne 17, 3) := by decide +kernel
theorem dX12_isAsked_46 : decode cX12_isAsked 46 = .ok (.lload_n 1, 1) := by decide +kernel
theorem dX12_isAsked_47 : decode cX12_isAsked 47 = .ok (.lload_n 3, 1) := by decide +kernel
theorem dX12_isAsked_48 : decode cX12_isAsked 48 = .ok (.lcmp, 1) := by decide +kernel
theorem dX12_isAsked_49 : decode cX12_isAsked 49 = .ok (.ifCond .le 7, 3) := by decide +kernel
theorem dX12_isAsked_52 : decode cX12_isAsked 52 = .ok (.iconst 1, 1) := by decide +kernel
theorem dX12_isAsked_53 : decode cX12_isAsked 53 = .ok (.goto 58, 3) := by decide +kernel
theorem dX12_isAsked_56 : decode cX12_isAsked 56 = .ok (.iconst 0, 1) := by decide +kernel
theorem dX12_isAsked_57 : decode cX12_isAsked 57 = .ok (.goto 54, 3) := by decide +kernel
theorem dX12_isAsked_60 : decode cX12_isAsked 60 = .ok (.iload_n 0, 1) := by decide +kernel
theorem dX12_isAsked_61 : decode cX12_isAsked 61 = .ok (.bipush 13, 2) := by decide +kernel
theorem dX12_isAsked_63 : decode cX12_isAsked 63 = .ok (.if_icmp .ne 17, 3) := by decide +kernel
theorem dX12_isAsked_66 : decode cX12_isAsked 66 = .ok (.lload_n 1, 1) := by decide +kernel
theorem dX12_isAsked_67 : decode cX12_isAsked 67 = .ok (.lload_n 3, 1) := by decide +kernel
theorem dX12_isAsked_68 : decode cX12_isAsked 68 = .ok (.lcmp, 1) := by decide +kernel
theorem dX12_isAsked_69 : decode cX12_isAsked 69 = .ok (.ifCond .lt 7, 3) := by decide +kernel
theorem dX12_isAsked_72 : decode cX12_isAsked 72 = .ok (.iconst 1, 1) := by decide +kernel
theorem dX12_isAsked_73 : decode cX12_isAsked 73 = .ok (.goto 38, 3) := by decide +kernel
theorem dX12_isAsked_76 : decode cX12_isAsked 76 = .ok (.iconst 0, 1) := by decide +kernel
theorem dX12_isAsked_77 : decode cX12_isAsked 77 = .ok (.goto 34, 3) := by decide +kernel
theorem dX12_isAsked_80 : decode cX12_isAsked 80 = .ok (.iload_n 0, 1) := by decide +kernel
theorem dX12_isAsked_81 : decode cX12_isAsked 81 = .ok (.bipush 14, 2) := by decide +kernel
theorem dX12_isAsked_83 : decode cX12_isAsked 83 = .ok (.if_icmp .ne 17, 3) := by decide +kernel
theorem dX12_isAsked_86 : decode cX12_isAsked 86 = .ok (.lload_n 1, 1) := by decide +kernel
theorem dX12_isAsked_87 : decode cX12_isAsked 87 = .ok (.lload_n 3, 1) := by decide +kernel
theorem dX12_isAsked_88 : decode cX12_isAsked 88 = .ok (.lcmp, 1) := by decide +kernel
theorem dX12_isAsked_89 : decode cX12_isAsked 89 = .ok (.ifCond .ne 7, 3) := by decide +kernel
theorem dX12_isAsked_92 : decode cX12_isAsked 92 = .ok (.iconst 1, 1) := by decide +kernel
theorem dX12_isAsked_93 : decode cX12_isAsked 93 = .ok (.goto 18, 3) := by decide +kernel
theorem dX12_isAsked_96 : decode cX12_isAsked 96 = .ok (.iconst 0, 1) := by decide +kernel
theorem dX12_isAsked_97 : decode cX12_isAsked 97 = .ok (.goto 14, 3) := by decide +kernel
theorem dX12_isAsked_100 : decode cX12_isAsked 100 = .ok (.lload_n 1, 1) := by decide +kernel
theorem dX12_isAsked_101 : decode cX12_isAsked 101 = .ok (.lload_n 3, 1) := by decide +kernel
theorem dX12_isAsked_102 : decode cX12_isAsked 102 = .ok (.lcmp, 1) := by decide +kernel
theorem dX12_isAsked_103 : decode cX12_isAsked 103 = .ok (.ifCond .eq 7, 3) := by decide +kernel
theorem dX12_isAsked_106 : decode cX12_isAsked 106 = .ok (.iconst 1, 1) := by decide +kernel
theorem dX12_isAsked_107 : decode cX12_isAsked 107 = .ok (.goto 4, 3) := by decide +kernel
theorem dX12_isAsked_110 : decode cX12_isAsked 110 = .ok (.iconst 0, 1) := by decide +kernel
theorem dX12_isAsked_111 : decode cX12_isAsked 111 = .ok (.ireturn, 1) := by decide +kernel
theorem dX12_waterOf_0 : decode cX12_waterOf 0 = .ok (.lload_n 1, 1) := by decide +kernel
theorem dX12_waterOf_1 : decode cX12_waterOf 1 = .ok (.lconst 0, 1) := by decide +kernel
theorem dX12_waterOf_2 : decode cX12_waterOf 2 = .ok (.lcmp, 1) := by decide +kernel
theorem dX12_waterOf_3 : decode cX12_waterOf 3 = .ok (.ifCond .lt 25, 3) := by decide +kernel
theorem dX12_waterOf_6 : decode cX12_waterOf 6 = .ok (.lload_n 1, 1) := by decide +kernel
theorem dX12_waterOf_7 : decode cX12_waterOf 7 = .ok (.ldc2_w 291, 3) := by decide +kernel
theorem dX12_waterOf_10 : decode cX12_waterOf 10 = .ok (.lcmp, 1) := by decide +kernel
theorem dX12_waterOf_11 : decode cX12_waterOf 11 = .ok (.ifCond .ge 17, 3) := by decide +kernel
theorem dX12_waterOf_14 : decode cX12_waterOf 14 = .ok (.aload_n 0, 1) := by decide +kernel
theorem dX12_waterOf_15 : decode cX12_waterOf 15 = .ok (.getfield 7, 3) := by decide +kernel
theorem dX12_waterOf_18 : decode cX12_waterOf 18 = .ok (.bipush 40, 2) := by decide +kernel
theorem dX12_waterOf_20 : decode cX12_waterOf 20 = .ok (.lload_n 1, 1) := by decide +kernel
theorem dX12_waterOf_21 : decode cX12_waterOf 21 = .ok (.l2i, 1) := by decide +kernel
theorem dX12_waterOf_22 : decode cX12_waterOf 22 = .ok (.iadd, 1) := by decide +kernel
theorem dX12_waterOf_23 : decode cX12_waterOf 23 = .ok (.iaload, 1) := by decide +kernel
theorem dX12_waterOf_24 : decode cX12_waterOf 24 = .ok (.i2l, 1) := by decide +kernel
theorem dX12_waterOf_25 : decode cX12_waterOf 25 = .ok (.goto 4, 3) := by decide +kernel
theorem dX12_waterOf_28 : decode cX12_waterOf 28 = .ok (.lconst 0, 1) := by decide +kernel
theorem dX12_waterOf_29 : decode cX12_waterOf 29 = .ok (.lreturn, 1) := by decide +kernel
theorem dX12_shareOf_0 : decode cX12_shareOf 0 = .ok (.lload_n 2, 1) := by decide +kernel
theorem dX12_shareOf_1 : decode cX12_shareOf 1 = .ok (.lconst 0, 1) := by decide +kernel
theorem dX12_shareOf_2 : decode cX12_shareOf 2 = .ok (.lcmp, 1) := by decide +kernel
theorem dX12_shareOf_3 : decode cX12_shareOf 3 = .ok (.ifCond .ne 7, 3) := by decide +kernel
theorem dX12_shareOf_6 : decode cX12_shareOf 6 = .ok (.lconst 0, 1) := by decide +kernel
theorem dX12_shareOf_7 : decode cX12_shareOf 7 = .ok (.goto 10, 3) := by decide +kernel
theorem dX12_shareOf_10 : decode cX12_shareOf 10 = .ok (.ldc2_w 293, 3) := by decide +kernel
theorem dX12_shareOf_13 : decode cX12_shareOf 13 = .ok (.lload_n 0, 1) := by decide +kernel
theorem dX12_shareOf_14 : decode cX12_shareOf 14 = .ok (.lmul, 1) := by decide +kernel
theorem dX12_shareOf_15 : decode cX12_shareOf 15 = .ok (.lload_n 2, 1) := by decide +kernel
theorem dX12_shareOf_16 : decode cX12_shareOf 16 = .ok (.ldiv, 1) := by decide +kernel
theorem dX12_shareOf_17 : decode cX12_shareOf 17 = .ok (.lstore 4, 2) := by decide +kernel
theorem dX12_shareOf_19 : decode cX12_shareOf 19 = .ok (.lload 4, 2) := by decide +kernel
theorem dX12_shareOf_21 : decode cX12_shareOf 21 = .ok (.ldc2_w 283, 3) := by decide +kernel
theorem dX12_shareOf_24 : decode cX12_shareOf 24 = .ok (.lcmp, 1) := by decide +kernel
theorem dX12_shareOf_25 : decode cX12_shareOf 25 = .ok (.ifCond .le 9, 3) := by decide +kernel
theorem dX12_shareOf_28 : decode cX12_shareOf 28 = .ok (.ldc2_w 283, 3) := by decide +kernel
theorem dX12_shareOf_31 : decode cX12_shareOf 31 = .ok (.goto 20, 3) := by decide +kernel
theorem dX12_shareOf_34 : decode cX12_shareOf 34 = .ok (.lload 4, 2) := by decide +kernel
theorem dX12_shareOf_36 : decode cX12_shareOf 36 = .ok (.ldc2_w 285, 3) := by decide +kernel
theorem dX12_shareOf_39 : decode cX12_shareOf 39 = .ok (.lcmp, 1) := by decide +kernel
theorem dX12_shareOf_40 : decode cX12_shareOf 40 = .ok (.ifCond .ge 9, 3) := by decide +kernel
theorem dX12_shareOf_43 : decode cX12_shareOf 43 = .ok (.ldc2_w 285, 3) := by decide +kernel
theorem dX12_shareOf_46 : decode cX12_shareOf 46 = .ok (.goto 5, 3) := by decide +kernel
theorem dX12_shareOf_49 : decode cX12_shareOf 49 = .ok (.lload 4, 2) := by decide +kernel
theorem dX12_shareOf_51 : decode cX12_shareOf 51 = .ok (.lreturn, 1) := by decide +kernel
theorem dX12_joined_0 : decode cX12_joined 0 = .ok (.iload_n 0, 1) := by decide +kernel
theorem dX12_joined_1 : decode cX12_joined 1 = .ok (.bipush 21, 2) := by decide +kernel
theorem dX12_joined_3 : decode cX12_joined 3 = .ok (.if_icmp .ne 19, 3) := by decide +kernel
theorem dX12_joined_6 : decode cX12_joined 6 = .ok (.iload_n 1, 1) := by decide +kernel
theorem dX12_joined_7 : decode cX12_joined 7 = .ok (.ifCond .eq 11, 3) := by decide +kernel
theorem dX12_joined_10 : decode cX12_joined 10 = .ok (.iload_n 2, 1) := by decide +kernel
theorem dX12_joined_11 : decode cX12_joined 11 = .ok (.ifCond .eq 7, 3) := by decide +kernel
theorem dX12_joined_14 : decode cX12_joined 14 = .ok (.iconst 1, 1) := by decide +kernel
theorem dX12_joined_15 : decode cX12_joined 15 = .ok (.goto 20, 3) := by decide +kernel
theorem dX12_joined_18 : decode cX12_joined 18 = .ok (.iconst 0, 1) := by decide +kernel
theorem dX12_joined_19 : decode cX12_joined 19 = .ok (.goto 16, 3) := by decide +kernel
theorem dX12_joined_22 : decode cX12_joined 22 = .ok (.iload_n 1, 1) := by decide +kernel
theorem dX12_joined_23 : decode cX12_joined 23 = .ok (.ifCond .ne 7, 3) := by decide +kernel
theorem dX12_joined_26 : decode cX12_joined 26 = .ok (.iload_n 2, 1) := by decide +kernel
theorem dX12_joined_27 : decode cX12_joined 27 = .ok (.ifCond .eq 7, 3) := by decide +kernel
theorem dX12_joined_30 : decode cX12_joined 30 = .ok (.iconst 1, 1) := by decide +kernel
theorem dX12_joined_31 : decode cX12_joined 31 = .ok (.goto 4, 3) := by decide +kernel
theorem dX12_joined_34 : decode cX12_joined 34 = .ok (.iconst 0, 1) := by decide +kernel
theorem dX12_joined_35 : decode cX12_joined 35 = .ok (.ireturn, 1) := by decide +kernel
theorem dX12_summedUp_0 : decode cX12_summedUp 0 = .ok (.sipush 681, 3) := by decide +kernel
theorem dX12_summedUp_3 : decode cX12_summedUp 3 = .ok (.iload_n 1, 1) := by decide +kernel
theorem dX12_summedUp_4 : decode cX12_summedUp 4 = .ok (.imul, 1) := by decide +kernel
theorem dX12_summedUp_5 : decode cX12_summedUp 5 = .ok (.iconst 1, 1) := by decide +kernel
theorem dX12_summedUp_6 : decode cX12_summedUp 6 = .ok (.iadd, 1) := by decide +kernel
theorem dX12_summedUp_7 : decode cX12_summedUp 7 = .ok (.iconst 3, 1) := by decide +kernel
theorem dX12_summedUp_8 : decode cX12_summedUp 8 = .ok (.iload_n 2, 1) := by decide +kernel
theorem dX12_summedUp_9 : decode cX12_summedUp 9 = .ok (.imul, 1) := by decide +kernel
theorem dX12_summedUp_10 : decode cX12_summedUp 10 = .ok (.iadd, 1) := by decide +kernel
theorem dX12_summedUp_11 : decode cX12_summedUp 11 = .ok (.istore_n 3, 1) := by decide +kernel
theorem dX12_summedUp_12 : decode cX12_summedUp 12 = .ok (.sipush 681, 3) := by decide +kernel
theorem dX12_summedUp_15 : decode cX12_summedUp 15 = .ok (.iload_n 1, 1) := by decide +kernel
theorem dX12_summedUp_16 : decode cX12_summedUp 16 = .ok (.imul, 1) := by decide +kernel
theorem dX12_summedUp_17 : decode cX12_summedUp 17 = .ok (.bipush 73, 2) := by decide +kernel
theorem dX12_summedUp_19 : decode cX12_summedUp 19 = .ok (.iadd, 1) := by decide +kernel
theorem dX12_summedUp_20 : decode cX12_summedUp 20 = .ok (.istore 4, 2) := by decide +kernel
theorem dX12_summedUp_22 : decode cX12_summedUp 22 = .ok (.iconst 0, 1) := by decide +kernel
theorem dX12_summedUp_23 : decode cX12_summedUp 23 = .ok (.istore 5, 2) := by decide +kernel
theorem dX12_summedUp_25 : decode cX12_summedUp 25 = .ok (.iconst 0, 1) := by decide +kernel
theorem dX12_summedUp_26 : decode cX12_summedUp 26 = .ok (.istore 6, 2) := by decide +kernel
theorem dX12_summedUp_28 : decode cX12_summedUp 28 = .ok (.aload_n 0, 1) := by decide +kernel
theorem dX12_summedUp_29 : decode cX12_summedUp 29 = .ok (.getfield 16, 3) := by decide +kernel
theorem dX12_summedUp_32 : decode cX12_summedUp 32 = .ok (.iload_n 3, 1) := by decide +kernel
theorem dX12_summedUp_33 : decode cX12_summedUp 33 = .ok (.iconst 1, 1) := by decide +kernel
theorem dX12_summedUp_34 : decode cX12_summedUp 34 = .ok (.iadd, 1) := by decide +kernel
theorem dX12_summedUp_35 : decode cX12_summedUp 35 = .ok (.iaload, 1) := by decide +kernel
theorem dX12_summedUp_36 : decode cX12_summedUp 36 = .ok (.istore 7, 2) := by decide +kernel
theorem dX12_summedUp_38 : decode cX12_summedUp 38 = .ok (.iload 7, 2) := by decide +kernel
theorem dX12_summedUp_40 : decode cX12_summedUp 40 = .ok (.aload_n 0, 1) := by decide +kernel
theorem dX12_summedUp_41 : decode cX12_summedUp 41 = .ok (.getfield 16, 3) := by decide +kernel
theorem dX12_summedUp_44 : decode cX12_summedUp 44 = .ok (.iload_n 3, 1) := by decide +kernel
theorem dX12_summedUp_45 : decode cX12_summedUp 45 = .ok (.iconst 2, 1) := by decide +kernel
theorem dX12_summedUp_46 : decode cX12_summedUp 46 = .ok (.iadd, 1) := by decide +kernel
theorem dX12_summedUp_47 : decode cX12_summedUp 47 = .ok (.iaload, 1) := by decide +kernel
theorem dX12_summedUp_48 : decode cX12_summedUp 48 = .ok (.if_icmp .ge 358, 3) := by decide +kernel
theorem dX12_summedUp_51 : decode cX12_summedUp 51 = .ok (.aload_n 0, 1) := by decide +kernel
theorem dX12_summedUp_52 : decode cX12_summedUp 52 = .ok (.getfield 16, 3) := by decide +kernel
theorem dX12_summedUp_55 : decode cX12_summedUp 55 = .ok (.iload 4, 2) := by decide +kernel
theorem dX12_summedUp_57 : decode cX12_summedUp 57 = .ok (.iconst 2, 1) := by decide +kernel
theorem dX12_summedUp_58 : decode cX12_summedUp 58 = .ok (.iload 7, 2) := by decide +kernel
theorem dX12_summedUp_60 : decode cX12_summedUp 60 = .ok (.imul, 1) := by decide +kernel
theorem dX12_summedUp_61 : decode cX12_summedUp 61 = .ok (.iadd, 1) := by decide +kernel
theorem dX12_summedUp_62 : decode cX12_summedUp 62 = .ok (.iaload, 1) := by decide +kernel
theorem dX12_summedUp_63 : decode cX12_summedUp 63 = .ok (.istore 8, 2) := by decide +kernel
theorem dX12_summedUp_65 : decode cX12_summedUp 65 = .ok (.aload_n 0, 1) := by decide +kernel
theorem dX12_summedUp_66 : decode cX12_summedUp 66 = .ok (.getfield 16, 3) := by decide +kernel
theorem dX12_summedUp_69 : decode cX12_summedUp 69 = .ok (.iload 4, 2) := by decide +kernel
theorem dX12_summedUp_71 : decode cX12_summedUp 71 = .ok (.iconst 2, 1) := by decide +kernel
theorem dX12_summedUp_72 : decode cX12_summedUp 72 = .ok (.iload 7, 2) := by decide +kernel
theorem dX12_summedUp_74 : decode cX12_summedUp 74 = .ok (.imul, 1) := by decide +kernel
theorem dX12_summedUp_75 : decode cX12_summedUp 75 = .ok (.iadd, 1) := by decide +kernel
theorem dX12_summedUp_76 : decode cX12_summedUp 76 = .ok (.iconst 1, 1) := by decide +kernel
theorem dX12_summedUp_77 : decode cX12_summedUp 77 = .ok (.iadd, 1) := by decide +kernel
theorem dX12_summedUp_78 : decode cX12_summedUp 78 = .ok (.iaload, 1) := by decide +kernel
theorem dX12_summedUp_79 : decode cX12_summedUp 79 = .ok (.istore 9, 2) := by decide +kernel
theorem dX12_summedUp_81 : decode cX12_summedUp 81 = .ok (.iload 8, 2) := by decide +kernel
theorem dX12_summedUp_83 : decode cX12_summedUp 83 = .ok (.iconst 1, 1) := by decide +kernel
theorem dX12_summedUp_84 : decode cX12_summedUp 84 = .ok (.if_icmp .gt 35, 3) := by decide +kernel
theorem dX12_summedUp_87 : decode cX12_summedUp 87 = .ok (.aload_n 0, 1) := by decide +kernel
theorem dX12_summedUp_88 : decode cX12_summedUp 88 = .ok (.getfield 35, 3) := by decide +kernel
theorem dX12_summedUp_91 : decode cX12_summedUp 91 = .ok (.iload 5, 2) := by decide +kernel
theorem dX12_summedUp_93 : decode cX12_summedUp 93 = .ok (.iload 8, 2) := by decide +kernel
theorem dX12_summedUp_95 : decode cX12_summedUp 95 = .ok (.ifCond .ne 9, 3) := by decide +kernel
theorem dX12_summedUp_98 : decode cX12_summedUp 98 = .ok (.iload 9, 2) := by decide +kernel
theorem dX12_summedUp_100 : decode cX12_summedUp 100 = .ok (.i2l, 1) := by decide +kernel
theorem dX12_summedUp_101 : decode cX12_summedUp 101 = .ok (.goto 11, 3) := by decide +kernel
theorem dX12_summedUp_104 : decode cX12_summedUp 104 = .ok (.aload_n 0, 1) := by decide +kernel
theorem dX12_summedUp_105 : decode cX12_summedUp 105 = .ok (.getfield 32, 3) := by decide +kernel
theorem dX12_summedUp_108 : decode cX12_summedUp 108 = .ok (.iload 9, 2) := by decide +kernel
theorem dX12_summedUp_110 : decode cX12_summedUp 110 = .ok (.iaload, 1) := by decide +kernel
theorem dX12_summedUp_111 : decode cX12_summedUp 111 = .ok (.i2l, 1) := by decide +kernel
theorem dX12_summedUp_112 : decode cX12_summedUp 112 = .ok (.lastore, 1) := by decide +kernel
theorem dX12_summedUp_113 : decode cX12_summedUp 113 = .ok (.iinc 5 1, 3) := by decide +kernel
theorem dX12_summedUp_116 : decode cX12_summedUp 116 = .ok (.goto 284, 3) := by decide +kernel
theorem dX12_summedUp_119 : decode cX12_summedUp 119 = .ok (.iload 8, 2) := by decide +kernel
theorem dX12_summedUp_121 : decode cX12_summedUp 121 = .ok (.iconst 3, 1) := by decide +kernel
theorem dX12_summedUp_122 : decode cX12_summedUp 122 = .ok (.if_icmp .ne 38, 3) := by decide +kernel
theorem dX12_summedUp_125 : decode cX12_summedUp 125 = .ok (.iinc 5 (-1), 3) := by decide +kernel
theorem dX12_summedUp_128 : decode cX12_summedUp 128 = .ok (.iinc 6 (-1), 3) := by decide +kernel
theorem dX12_summedUp_131 : decode cX12_summedUp 131 = .ok (.aload_n 0, 1) := by decide +kernel
theorem dX12_summedUp_132 : decode cX12_summedUp 132 = .ok (.getfield 39, 3) := by decide +kernel
theorem dX12_summedUp_135 : decode cX12_summedUp 135 = .ok (.iload 6, 2) := by decide +kernel
theorem dX12_summedUp_137 : decode cX12_summedUp 137 = .ok (.baload, 1) := by decide +kernel
theorem dX12_summedUp_138 : decode cX12_summedUp 138 = .ok (.ifCond .ne 262, 3) := by decide +kernel
theorem dX12_summedUp_141 : decode cX12_summedUp 141 = .ok (.aload_n 0, 1) := by decide +kernel
theorem dX12_summedUp_142 : decode cX12_summedUp 142 = .ok (.getfield 35, 3) := by decide +kernel
theorem dX12_summedUp_145 : decode cX12_summedUp 145 = .ok (.iload 5, 2) := by decide +kernel
theorem dX12_summedUp_147 : decode cX12_summedUp 147 = .ok (.iconst 1, 1) := by decide +kernel
theorem dX12_summedUp_148 : decode cX12_summedUp 148 = .ok (.isub, 1) := by decide +kernel
theorem dX12_summedUp_149 : decode cX12_summedUp 149 = .ok (.aload_n 0, 1) := by decide +kernel
theorem dX12_summedUp_150 : decode cX12_summedUp 150 = .ok (.getfield 35, 3) := by decide +kernel
theorem dX12_summedUp_153 : decode cX12_summedUp 153 = .ok (.iload 5, 2) := by decide +kernel
theorem dX12_summedUp_155 : decode cX12_summedUp 155 = .ok (.laload, 1) := by decide +kernel
theorem dX12_summedUp_156 : decode cX12_summedUp 156 = .ok (.lastore, 1) := by decide +kernel
theorem dX12_summedUp_157 : decode cX12_summedUp 157 = .ok (.goto 243, 3) := by decide +kernel
theorem dX12_summedUp_160 : decode cX12_summedUp 160 = .ok (.iload 8, 2) := by decide +kernel
theorem dX12_summedUp_162 : decode cX12_summedUp 162 = .ok (.iconst 5, 1) := by decide +kernel
theorem dX12_summedUp_163 : decode cX12_summedUp 163 = .ok (.if_icmp .eq 9, 3) := by decide +kernel
theorem dX12_summedUp_166 : decode cX12_summedUp 166 = .ok (.iload 8, 2) := by decide +kernel
theorem dX12_summedUp_168 : decode cX12_summedUp 168 = .ok (.iconst 2, 1) := by decide +kernel
theorem dX12_summedUp_169 : decode cX12_summedUp 169 = .ok (.if_icmp .ne 47, 3) := by decide +kernel
theorem dX12_summedUp_172 : decode cX12_summedUp 172 = .ok (.aload_n 0, 1) := by decide +kernel
theorem dX12_summedUp_173 : decode cX12_summedUp 173 = .ok (.getfield 35, 3) := by decide +kernel
theorem dX12_summedUp_176 : decode cX12_summedUp 176 = .ok (.iload 5, 2) := by decide +kernel
theorem dX12_summedUp_178 : decode cX12_summedUp 178 = .ok (.iconst 1, 1) := by decide +kernel
theorem dX12_summedUp_179 : decode cX12_summedUp 179 = .ok (.isub, 1) := by decide +kernel
theorem dX12_summedUp_180 : decode cX12_summedUp 180 = .ok (.iload 8, 2) := by decide +kernel
theorem dX12_summedUp_182 : decode cX12_summedUp 182 = .ok (.iconst 5, 1) := by decide +kernel
theorem dX12_summedUp_183 : decode cX12_summedUp 183 = .ok (.if_icmp .ne 16, 3) := by decide +kernel
theorem dX12_summedUp_186 : decode cX12_summedUp 186 = .ok (.aload_n 0, 1) := by decide +kernel
theorem dX12_summedUp_187 : decode cX12_summedUp 187 = .ok (.getfield 35, 3) := by decide +kernel
theorem dX12_summedUp_190 : decode cX12_summedUp 190 = .ok (.iload 5, 2) := by decide +kernel
theorem dX12_summedUp_192 : decode cX12_summedUp 192 = .ok (.iconst 1, 1) := by decide +kernel
theorem dX12_summedUp_193 : decode cX12_summedUp 193 = .ok (.isub, 1) := by decide +kernel
theorem dX12_summedUp_194 : decode cX12_summedUp 194 = .ok (.laload, 1) := by decide +kernel
theorem dX12_summedUp_195 : decode cX12_summedUp 195 = .ok (.lneg, 1) := by decide +kernel
theorem dX12_summedUp_196 : decode cX12_summedUp 196 = .ok (.goto 16, 3) := by decide +kernel
theorem dX12_summedUp_199 : decode cX12_summedUp 199 = .ok (.aload_n 0, 1) := by decide +kernel
theorem dX12_summedUp_200 : decode cX12_summedUp 200 = .ok (.aload_n 0, 1) := by decide +kernel
theorem dX12_summedUp_201 : decode cX12_summedUp 201 = .ok (.getfield 35, 3) := by decide +kernel
theorem dX12_summedUp_204 : decode cX12_summedUp 204 = .ok (.iload 5, 2) := by decide +kernel
theorem dX12_summedUp_206 : decode cX12_summedUp 206 = .ok (.iconst 1, 1) := by decide +kernel
theorem dX12_summedUp_207 : decode cX12_summedUp 207 = .ok (.isub, 1) := by decide +kernel
theorem dX12_summedUp_208 : decode cX12_summedUp 208 = .ok (.laload, 1) := by decide +kernel
theorem dX12_summedUp_209 : decode cX12_summedUp 209 = .ok (.invokevirtual 295, 3) := by decide +kernel
theorem dX12_summedUp_212 : decode cX12_summedUp 212 = .ok (.lastore, 1) := by decide +kernel
theorem dX12_summedUp_213 : decode cX12_summedUp 213 = .ok (.goto 187, 3) := by decide +kernel
theorem dX12_summedUp_216 : decode cX12_summedUp 216 = .ok (.iload 8, 2) := by decide +kernel
theorem dX12_summedUp_218 : decode cX12_summedUp 218 = .ok (.bipush 10, 2) := by decide +kernel
theorem dX12_summedUp_220 : decode cX12_summedUp 220 = .ok (.if_icmp .ge 67, 3) := by decide +kernel
theorem dX12_summedUp_223 : decode cX12_summedUp 223 = .ok (.iinc 5 (-1), 3) := by decide +kernel
theorem dX12_summedUp_226 : decode cX12_summedUp 226 = .ok (.aload_n 0, 1) := by decide +kernel
theorem dX12_summedUp_227 : decode cX12_summedUp 227 = .ok (.getfield 35, 3) := by decide +kernel
theorem dX12_summedUp_230 : decode cX12_summedUp 230 = .ok (.iload 5, 2) := by decide +kernel
theorem dX12_summedUp_232 : decode cX12_summedUp 232 = .ok (.iconst 1, 1) := by decide +kernel
theorem dX12_summedUp_233 : decode cX12_summedUp 233 = .ok (.isub, 1) := by decide +kernel
theorem dX12_summedUp_234 : decode cX12_summedUp 234 = .ok (.iload 8, 2) := by decide +kernel
theorem dX12_summedUp_236 : decode cX12_summedUp 236 = .ok (.iconst 4, 1) := by decide +kernel
theorem dX12_summedUp_237 : decode cX12_summedUp 237 = .ok (.if_icmp .ne 25, 3) := by decide +kernel
theorem dX12_summedUp_240 : decode cX12_summedUp 240 = .ok (.aload_n 0, 1) := by decide +kernel
theorem dX12_summedUp_241 : decode cX12_summedUp 241 = .ok (.getfield 35, 3) := by decide +kernel
theorem dX12_summedUp_244 : decode cX12_summedUp 244 = .ok (.iload 5, 2) := by decide +kernel
theorem dX12_summedUp_246 : decode cX12_summedUp 246 = .ok (.iconst 1, 1) := by decide +kernel
theorem dX12_summedUp_247 : decode cX12_summedUp 247 = .ok (.isub, 1) := by decide +kernel
theorem dX12_summedUp_248 : decode cX12_summedUp 248 = .ok (.laload, 1) := by decide +kernel
theorem dX12_summedUp_249 : decode cX12_summedUp 249 = .ok (.aload_n 0, 1) := by decide +kernel
theorem dX12_summedUp_250 : decode cX12_summedUp 250 = .ok (.getfield 35, 3) := by decide +kernel
theorem dX12_summedUp_253 : decode cX12_summedUp 253 = .ok (.iload 5, 2) := by decide +kernel
theorem dX12_summedUp_255 : decode cX12_summedUp 255 = .ok (.laload, 1) := by decide +kernel
theorem dX12_summedUp_256 : decode cX12_summedUp 256 = .ok (.invokestatic 298, 3) := by decide +kernel
theorem dX12_summedUp_259 : decode cX12_summedUp 259 = .ok (.goto 24, 3) := by decide +kernel
theorem dX12_summedUp_262 : decode cX12_summedUp 262 = .ok (.iload 8, 2) := by decide +kernel
theorem dX12_summedUp_264 : decode cX12_summedUp 264 = .ok (.aload_n 0, 1) := by decide +kernel
theorem dX12_summedUp_265 : decode cX12_summedUp 265 = .ok (.getfield 35, 3) := by decide +kernel
theorem dX12_summedUp_268 : decode cX12_summedUp 268 = .ok (.iload 5, 2) := by decide +kernel
theorem dX12_summedUp_270 : decode cX12_summedUp 270 = .ok (.iconst 1, 1) := by decide +kernel
theorem dX12_summedUp_271 : decode cX12_summedUp 271 = .ok (.isub, 1) := by decide +kernel
theorem dX12_summedUp_272 : decode cX12_summedUp 272 = .ok (.laload, 1) := by decide +kernel
theorem dX12_summedUp_273 : decode cX12_summedUp 273 = .ok (.aload_n 0, 1) := by decide +kernel
theorem dX12_summedUp_274 : decode cX12_summedUp 274 = .ok (.getfield 35, 3) := by decide +kernel
theorem dX12_summedUp_277 : decode cX12_summedUp 277 = .ok (.iload 5, 2) := by decide +kernel
theorem dX12_summedUp_279 : decode cX12_summedUp 279 = .ok (.laload, 1) := by decide +kernel
theorem dX12_summedUp_280 : decode cX12_summedUp 280 = .ok (.invokestatic 302, 3) := by decide +kernel
theorem dX12_summedUp_283 : decode cX12_summedUp 283 = .ok (.lastore, 1) := by decide +kernel
theorem dX12_summedUp_284 : decode cX12_summedUp 284 = .ok (.goto 116, 3) := by decide +kernel
theorem dX12_summedUp_287 : decode cX12_summedUp 287 = .ok (.iload 8, 2) := by decide +kernel
theorem dX12_summedUp_289 : decode cX12_summedUp 289 = .ok (.bipush 20, 2) := by decide +kernel
theorem dX12_summedUp_291 : decode cX12_summedUp 291 = .ok (.if_icmp .ge 40, 3) := by decide +kernel
theorem dX12_summedUp_294 : decode cX12_summedUp 294 = .ok (.iinc 5 (-2), 3) := by decide +kernel
theorem dX12_summedUp_297 : decode cX12_summedUp 297 = .ok (.aload_n 0, 1) := by decide +kernel
theorem dX12_summedUp_298 : decode cX12_summedUp 298 = .ok (.getfield 39, 3) := by decide +kernel
theorem dX12_summedUp_301 : decode cX12_summedUp 301 = .ok (.iload 6, 2) := by decide +kernel
theorem dX12_summedUp_303 : decode cX12_summedUp 303 = .ok (.iload 8, 2) := by decide +kernel
theorem dX12_summedUp_305 : decode cX12_summedUp 305 = .ok (.aload_n 0, 1) := by decide +kernel
theorem dX12_summedUp_306 : decode cX12_summedUp 306 = .ok (.getfield 35, 3) := by decide +kernel
theorem dX12_summedUp_309 : decode cX12_summedUp 309 = .ok (.iload 5, 2) := by decide +kernel
theorem dX12_summedUp_311 : decode cX12_summedUp 311 = .ok (.laload, 1) := by decide +kernel
theorem dX12_summedUp_312 : decode cX12_summedUp 312 = .ok (.aload_n 0, 1) := by decide +kernel
theorem dX12_summedUp_313 : decode cX12_summedUp 313 = .ok (.getfield 35, 3) := by decide +kernel
theorem dX12_summedUp_316 : decode cX12_summedUp 316 = .ok (.iload 5, 2) := by decide +kernel
theorem dX12_summedUp_318 : decode cX12_summedUp 318 = .ok (.iconst 1, 1) := by decide +kernel
theorem dX12_summedUp_319 : decode cX12_summedUp 319 = .ok (.iadd, 1) := by decide +kernel
theorem dX12_summedUp_320 : decode cX12_summedUp 320 = .ok (.laload, 1) := by decide +kernel
theorem dX12_summedUp_321 : decode cX12_summedUp 321 = .ok (.invokestatic 306, 3) := by decide +kernel
theorem dX12_summedUp_324 : decode cX12_summedUp 324 = .ok (.bastore, 1) := by decide +kernel
theorem dX12_summedUp_325 : decode cX12_summedUp 325 = .ok (.iinc 6 1, 3) := by decide +kernel
theorem dX12_summedUp_328 : decode cX12_summedUp 328 = .ok (.goto 72, 3) := by decide +kernel
theorem dX12_summedUp_331 : decode cX12_summedUp 331 = .ok (.iload 8, 2) := by decide +kernel
theorem dX12_summedUp_333 : decode cX12_summedUp 333 = .ok (.bipush 20, 2) := by decide +kernel
theorem dX12_summedUp_335 : decode cX12_summedUp 335 = .ok (.if_icmp .ne 32, 3) := by decide +kernel
theorem dX12_summedUp_338 : decode cX12_summedUp 338 = .ok (.aload_n 0, 1) := by decide +kernel
theorem dX12_summedUp_339 : decode cX12_summedUp 339 = .ok (.getfield 39, 3) := by decide +kernel
theorem dX12_summedUp_342 : decode cX12_summedUp 342 = .ok (.iload 6, 2) := by decide +kernel
theorem dX12_summedUp_344 : decode cX12_summedUp 344 = .ok (.iconst 1, 1) := by decide +kernel
theorem dX12_summedUp_345 : decode cX12_summedUp 345 = .ok (.isub, 1) := by decide +kernel
theorem dX12_summedUp_346 : decode cX12_summedUp 346 = .ok (.aload_n 0, 1) := by decide +kernel
theorem dX12_summedUp_347 : decode cX12_summedUp 347 = .ok (.getfield 39, 3) := by decide +kernel
theorem dX12_summedUp_350 : decode cX12_summedUp 350 = .ok (.iload 6, 2) := by decide +kernel
theorem dX12_summedUp_352 : decode cX12_summedUp 352 = .ok (.iconst 1, 1) := by decide +kernel
theorem dX12_summedUp_353 : decode cX12_summedUp 353 = .ok (.isub, 1) := by decide +kernel
theorem dX12_summedUp_354 : decode cX12_summedUp 354 = .ok (.baload, 1) := by decide +kernel
theorem dX12_summedUp_355 : decode cX12_summedUp 355 = .ok (.ifCond .ne 7, 3) := by decide +kernel
theorem dX12_summedUp_358 : decode cX12_summedUp 358 = .ok (.iconst 1, 1) := by decide +kernel
theorem dX12_summedUp_359 : decode cX12_summedUp 359 = .ok (.goto 4, 3) := by decide +kernel
theorem dX12_summedUp_362 : decode cX12_summedUp 362 = .ok (.iconst 0, 1) := by decide +kernel
theorem dX12_summedUp_363 : decode cX12_summedUp 363 = .ok (.bastore, 1) := by decide +kernel
theorem dX12_summedUp_364 : decode cX12_summedUp 364 = .ok (.goto 36, 3) := by decide +kernel
theorem dX12_summedUp_367 : decode cX12_summedUp 367 = .ok (.iinc 6 (-1), 3) := by decide +kernel
theorem dX12_summedUp_370 : decode cX12_summedUp 370 = .ok (.aload_n 0, 1) := by decide +kernel
theorem dX12_summedUp_371 : decode cX12_summedUp 371 = .ok (.getfield 39, 3) := by decide +kernel
theorem dX12_summedUp_374 : decode cX12_summedUp 374 = .ok (.iload 6, 2) := by decide +kernel
theorem dX12_summedUp_376 : decode cX12_summedUp 376 = .ok (.iconst 1, 1) := by decide +kernel
theorem dX12_summedUp_377 : decode cX12_summedUp 377 = .ok (.isub, 1) := by decide +kernel
theorem dX12_summedUp_378 : decode cX12_summedUp 378 = .ok (.iload 8, 2) := by decide +kernel
theorem dX12_summedUp_380 : decode cX12_summedUp 380 = .ok (.aload_n 0, 1) := by decide +kernel
theorem dX12_summedUp_381 : decode cX12_summedUp 381 = .ok (.getfield 39, 3) := by decide +kernel
theorem dX12_summedUp_384 : decode cX12_summedUp 384 = .ok (.iload 6, 2) := by decide +kernel
theorem dX12_summedUp_386 : decode cX12_summedUp 386 = .ok (.iconst 1, 1) := by decide +kernel
theorem dX12_summedUp_387 : decode cX12_summedUp 387 = .ok (.isub, 1) := by decide +kernel
theorem dX12_summedUp_388 : decode cX12_summedUp 388 = .ok (.baload, 1) := by decide +kernel
theorem dX12_summedUp_389 : decode cX12_summedUp 389 = .ok (.aload_n 0, 1) := by decide +kernel
theorem dX12_summedUp_390 : decode cX12_summedUp 390 = .ok (.getfield 39, 3) := by decide +kernel
theorem dX12_summedUp_393 : decode cX12_summedUp 393 = .ok (.iload 6, 2) := by decide +kernel
theorem dX12_summedUp_395 : decode cX12_summedUp 395 = .ok (.baload, 1) := by decide +kernel
theorem dX12_summedUp_396 : decode cX12_summedUp 396 = .ok (.invokestatic 310, 3) := by decide +kernel
theorem dX12_summedUp_399 : decode cX12_summedUp 399 = .ok (.bastore, 1) := by decide +kernel
theorem dX12_summedUp_400 : decode cX12_summedUp 400 = .ok (.iinc 7 1, 3) := by decide +kernel
theorem dX12_summedUp_403 : decode cX12_summedUp 403 = .ok (.goto (-365), 3) := by decide +kernel
theorem dX12_summedUp_406 : decode cX12_summedUp 406 = .ok (.aload_n 0, 1) := by decide +kernel
theorem dX12_summedUp_407 : decode cX12_summedUp 407 = .ok (.getfield 35, 3) := by decide +kernel
theorem dX12_summedUp_410 : decode cX12_summedUp 410 = .ok (.iconst 0, 1) := by decide +kernel
theorem dX12_summedUp_411 : decode cX12_summedUp 411 = .ok (.laload, 1) := by decide +kernel
theorem dX12_summedUp_412 : decode cX12_summedUp 412 = .ok (.lreturn, 1) := by decide +kernel
theorem dX12_says_0 : decode cX12_says 0 = .ok (.iconst 0, 1) := by decide +kernel
theorem dX12_says_1 : decode cX12_says 1 = .ok (.istore 6, 2) := by decide +kernel
theorem dX12_says_3 : decode cX12_says 3 = .ok (.iload_n 1, 1) := by decide +kernel
theorem dX12_says_4 : decode cX12_says 4 = .ok (.ifCond .lt 60, 3) := by decide +kernel
theorem dX12_says_7 : decode cX12_says 7 = .ok (.iload 6, 2) := by decide +kernel
theorem dX12_says_9 : decode cX12_says 9 = .ok (.aload_n 0, 1) := by decide +kernel
theorem dX12_says_10 : decode cX12_says 10 = .ok (.getfield 16, 3) := by decide +kernel
theorem dX12_says_13 : decode cX12_says 13 = .ok (.sipush 681, 3) := by decide +kernel
theorem dX12_says_16 : decode cX12_says 16 = .ok (.iload_n 1, 1) := by decide +kernel
theorem dX12_says_17 : decode cX12_says 17 = .ok (.imul, 1) := by decide +kernel
theorem dX12_says_18 : decode cX12_says 18 = .ok (.iaload, 1) := by decide +kernel
theorem dX12_says_19 : decode cX12_says 19 = .ok (.if_icmp .ge 45, 3) := by decide +kernel
theorem dX12_says_22 : decode cX12_says 22 = .ok (.aload_n 0, 1) := by decide +kernel
theorem dX12_says_23 : decode cX12_says 23 = .ok (.getfield 16, 3) := by decide +kernel
theorem dX12_says_26 : decode cX12_says 26 = .ok (.sipush 681, 3) := by decide +kernel
theorem dX12_says_29 : decode cX12_says 29 = .ok (.iload_n 1, 1) := by decide +kernel
theorem dX12_says_30 : decode cX12_says 30 = .ok (.imul, 1) := by decide +kernel
theorem dX12_says_31 : decode cX12_says 31 = .ok (.iconst 1, 1) := by decide +kernel
theorem dX12_says_32 : decode cX12_says 32 = .ok (.iadd, 1) := by decide +kernel
theorem dX12_says_33 : decode cX12_says 33 = .ok (.iconst 3, 1) := by decide +kernel
theorem dX12_says_34 : decode cX12_says 34 = .ok (.iload 6, 2) := by decide +kernel
theorem dX12_says_36 : decode cX12_says 36 = .ok (.imul, 1) := by decide +kernel
theorem dX12_says_37 : decode cX12_says 37 = .ok (.iadd, 1) := by decide +kernel
theorem dX12_says_38 : decode cX12_says 38 = .ok (.iaload, 1) := by decide +kernel
theorem dX12_says_39 : decode cX12_says 39 = .ok (.iload_n 2, 1) := by decide +kernel
theorem dX12_says_40 : decode cX12_says 40 = .ok (.if_icmp .ne 18, 3) := by decide +kernel
theorem dX12_says_43 : decode cX12_says 43 = .ok (.aload_n 0, 1) := by decide +kernel
theorem dX12_says_44 : decode cX12_says 44 = .ok (.iload_n 1, 1) := by decide +kernel
theorem dX12_says_45 : decode cX12_says 45 = .ok (.iload 6, 2) := by decide +kernel
theorem dX12_says_47 : decode cX12_says 47 = .ok (.invokevirtual 314, 3) := by decide +kernel
theorem dX12_says_50 : decode cX12_says 50 = .ok (.iload 4, 2) := by decide +kernel
theorem dX12_says_52 : decode cX12_says 52 = .ok (.iload 5, 2) := by decide +kernel
theorem dX12_says_54 : decode cX12_says 54 = .ok (.invokestatic 317, 3) := by decide +kernel
theorem dX12_says_57 : decode cX12_says 57 = .ok (.ireturn, 1) := by decide +kernel
theorem dX12_says_58 : decode cX12_says 58 = .ok (.iinc 6 1, 3) := by decide +kernel
theorem dX12_says_61 : decode cX12_says 61 = .ok (.goto (-58), 3) := by decide +kernel
theorem dX12_says_64 : decode cX12_says 64 = .ok (.iload_n 3, 1) := by decide +kernel
theorem dX12_says_65 : decode cX12_says 65 = .ok (.i2l, 1) := by decide +kernel
theorem dX12_says_66 : decode cX12_says 66 = .ok (.iload 4, 2) := by decide +kernel
theorem dX12_says_68 : decode cX12_says 68 = .ok (.iload 5, 2) := by decide +kernel
theorem dX12_says_70 : decode cX12_says 70 = .ok (.invokestatic 317, 3) := by decide +kernel
theorem dX12_says_73 : decode cX12_says 73 = .ok (.ireturn, 1) := by decide +kernel
theorem dX12_layFar_0 : decode cX12_layFar 0 = .ok (.iconst 0, 1) := by decide +kernel
theorem dX12_layFar_1 : decode cX12_layFar 1 = .ok (.istore_n 3, 1) := by decide +kernel
theorem dX12_layFar_2 : decode cX12_layFar 2 = .ok (.iload_n 3, 1) := by decide +kernel
theorem dX12_layFar_3 : decode cX12_layFar 3 = .ok (.bipush 30, 2) := by decide +kernel
theorem dX12_layFar_5 : decode cX12_layFar 5 = .ok (.if_icmp .ge 16, 3) := by decide +kernel
theorem dX12_layFar_8 : decode cX12_layFar 8 = .ok (.aload_n 0, 1) := by decide +kernel
theorem dX12_layFar_9 : decode cX12_layFar 9 = .ok (.getfield 43, 3) := by decide +kernel
theorem dX12_layFar_12 : decode cX12_layFar 12 = .ok (.iload_n 3, 1) := by decide +kernel
theorem dX12_layFar_13 : decode cX12_layFar 13 = .ok (.iconst (-1), 1) := by decide +kernel
theorem dX12_layFar_14 : decode cX12_layFar 14 = .ok (.iastore, 1) := by decide +kernel
theorem dX12_layFar_15 : decode cX12_layFar 15 = .ok (.iinc 3 1, 3) := by decide +kernel
theorem dX12_layFar_18 : decode cX12_layFar 18 = .ok (.goto (-16), 3) := by decide +kernel
theorem dX12_layFar_21 : decode cX12_layFar 21 = .ok (.iload_n 2, 1) := by decide +kernel
theorem dX12_layFar_22 : decode cX12_layFar 22 = .ok (.iload_n 1, 1) := by decide +kernel
theorem dX12_layFar_23 : decode cX12_layFar 23 = .ok (.invokestatic 270, 3) := by decide +kernel
theorem dX12_layFar_26 : decode cX12_layFar 26 = .ok (.ifCond .eq 9, 3) := by decide +kernel
theorem dX12_layFar_29 : decode cX12_layFar 29 = .ok (.iconst 1, 1) := by decide +kernel
theorem dX12_layFar_30 : decode cX12_layFar 30 = .ok (.iload_n 1, 1) := by decide +kernel
theorem dX12_layFar_31 : decode cX12_layFar 31 = .ok (.ishl, 1) := by decide +kernel
theorem dX12_layFar_32 : decode cX12_layFar 32 = .ok (.goto 4, 3) := by decide +kernel
theorem dX12_layFar_35 : decode cX12_layFar 35 = .ok (.iconst 0, 1) := by decide +kernel
theorem dX12_layFar_36 : decode cX12_layFar 36 = .ok (.istore_n 3, 1) := by decide +kernel
theorem dX12_layFar_37 : decode cX12_layFar 37 = .ok (.iload_n 3, 1) := by decide +kernel
theorem dX12_layFar_38 : decode cX12_layFar 38 = .ok (.istore 4, 2) := by decide +kernel
theorem dX12_layFar_40 : decode cX12_layFar 40 = .ok (.iconst 0, 1) := by decide +kernel
theorem dX12_layFar_41 : decode cX12_layFar 41 = .ok (.istore 5, 2) := by decide +kernel
theorem dX12_layFar_43 : decode cX12_layFar 43 = .ok (.iload_n 3, 1) := by decide +kernel
theorem dX12_layFar_44 : decode cX12_layFar 44 = .ok (.ifCond .eq 61, 3) := by decide +kernel
theorem dX12_layFar_47 : decode cX12_layFar 47 = .ok (.iconst 0, 1) := by decide +kernel
theorem dX12_layFar_48 : decode cX12_layFar 48 = .ok (.istore 6, 2) := by decide +kernel
theorem dX12_layFar_50 : decode cX12_layFar 50 = .ok (.iload 6, 2) := by decide +kernel
theorem dX12_layFar_52 : decode cX12_layFar 52 = .ok (.bipush 30, 2) := by decide +kernel
theorem dX12_layFar_54 : decode cX12_layFar 54 = .ok (.if_icmp .ge 27, 3) := by decide +kernel
theorem dX12_layFar_57 : decode cX12_layFar 57 = .ok (.iload_n 3, 1) := by decide +kernel
theorem dX12_layFar_58 : decode cX12_layFar 58 = .ok (.iload 6, 2) := by decide +kernel
theorem dX12_layFar_60 : decode cX12_layFar 60 = .ok (.invokestatic 270, 3) := by decide +kernel
theorem dX12_layFar_63 : decode cX12_layFar 63 = .ok (.ifCond .eq 12, 3) := by decide +kernel
theorem dX12_layFar_66 : decode cX12_layFar 66 = .ok (.aload_n 0, 1) := by decide +kernel
theorem dX12_layFar_67 : decode cX12_layFar 67 = .ok (.getfield 43, 3) := by decide +kernel
theorem dX12_layFar_70 : decode cX12_layFar 70 = .ok (.iload 6, 2) := by decide +kernel
theorem dX12_layFar_72 : decode cX12_layFar 72 = .ok (.iload 5, 2) := by decide +kernel
theorem dX12_layFar_74 : decode cX12_layFar 74 = .ok (.iastore, 1) := by decide +kernel
theorem dX12_layFar_75 : decode cX12_layFar 75 = .ok (.iinc 6 1, 3) := by decide +kernel
theorem dX12_layFar_78 : decode cX12_layFar 78 = .ok (.goto (-28), 3) := by decide +kernel
theorem dX12_layFar_81 : decode cX12_layFar 81 = .ok (.iload_n 3, 1) := by decide +kernel
theorem dX12_layFar_82 : decode cX12_layFar 82 = .ok (.invokestatic 321, 3) := by decide +kernel
theorem dX12_layFar_85 : decode cX12_layFar 85 = .ok (.iload_n 2, 1) := by decide +kernel
theorem dX12_layFar_86 : decode cX12_layFar 86 = .ok (.iand, 1) := by decide +kernel
theorem dX12_layFar_87 : decode cX12_layFar 87 = .ok (.iload 4, 2) := by decide +kernel
theorem dX12_layFar_89 : decode cX12_layFar 89 = .ok (.iconst (-1), 1) := by decide +kernel
theorem dX12_layFar_90 : decode cX12_layFar 90 = .ok (.ixor, 1) := by decide +kernel
theorem dX12_layFar_91 : decode cX12_layFar 91 = .ok (.iand, 1) := by decide +kernel
theorem dX12_layFar_92 : decode cX12_layFar 92 = .ok (.istore_n 3, 1) := by decide +kernel
theorem dX12_layFar_93 : decode cX12_layFar 93 = .ok (.iload 4, 2) := by decide +kernel
theorem dX12_layFar_95 : decode cX12_layFar 95 = .ok (.iload_n 3, 1) := by decide +kernel
theorem dX12_layFar_96 : decode cX12_layFar 96 = .ok (.ior, 1) := by decide +kernel
theorem dX12_layFar_97 : decode cX12_layFar 97 = .ok (.istore 4, 2) := by decide +kernel
theorem dX12_layFar_99 : decode cX12_layFar 99 = .ok (.iinc 5 1, 3) := by decide +kernel
theorem dX12_layFar_102 : decode cX12_layFar 102 = .ok (.goto (-59), 3) := by decide +kernel
theorem dX12_layFar_105 : decode cX12_layFar 105 = .ok (.return_, 1) := by decide +kernel
theorem dX12_stepsOf_0 : decode cX12_stepsOf 0 = .ok (.aload_n 0, 1) := by decide +kernel
theorem dX12_stepsOf_1 : decode cX12_stepsOf 1 = .ok (.iload_n 1, 1) := by decide +kernel
theorem dX12_stepsOf_2 : decode cX12_stepsOf 2 = .ok (.aload_n 0, 1) := by decide +kernel
theorem dX12_stepsOf_3 : decode cX12_stepsOf 3 = .ok (.invokevirtual 324, 3) := by decide +kernel
theorem dX12_stepsOf_6 : decode cX12_stepsOf 6 = .ok (.invokevirtual 327, 3) := by decide +kernel
theorem dX12_stepsOf_9 : decode cX12_stepsOf 9 = .ok (.aload_n 0, 1) := by decide +kernel
theorem dX12_stepsOf_10 : decode cX12_stepsOf 10 = .ok (.getfield 43, 3) := by decide +kernel
theorem dX12_stepsOf_13 : decode cX12_stepsOf 13 = .ok (.iload_n 2, 1) := by decide +kernel
theorem dX12_stepsOf_14 : decode cX12_stepsOf 14 = .ok (.iaload, 1) := by decide +kernel
theorem dX12_stepsOf_15 : decode cX12_stepsOf 15 = .ok (.ireturn, 1) := by decide +kernel
theorem dX12_name_0 : decode cX12_name 0 = .ok (.aload_n 0, 1) := by decide +kernel
theorem dX12_name_1 : decode cX12_name 1 = .ok (.iload_n 1, 1) := by decide +kernel
theorem dX12_name_2 : decode cX12_name 2 = .ok (.iconst 0, 1) := by decide +kernel
theorem dX12_name_3 : decode cX12_name 3 = .ok (.invokevirtual 105, 3) := by decide +kernel
theorem dX12_name_6 : decode cX12_name 6 = .ok (.istore_n 2, 1) := by decide +kernel
theorem dX12_name_7 : decode cX12_name 7 = .ok (.aload_n 0, 1) := by decide +kernel
theorem dX12_name_8 : decode cX12_name 8 = .ok (.getfield 32, 3) := by decide +kernel
theorem dX12_name_11 : decode cX12_name 11 = .ok (.iconst 0, 1) := by decide +kernel
theorem dX12_name_12 : decode cX12_name 12 = .ok (.aload_n 0, 1) := by decide +kernel
theorem dX12_name_13 : decode cX12_name 13 = .ok (.getfield 7, 3) := by decide +kernel
theorem dX12_name_16 : decode cX12_name 16 = .ok (.bipush 6, 2) := by decide +kernel
theorem dX12_name_18 : decode cX12_name 18 = .ok (.iaload, 1) := by decide +kernel
theorem dX12_name_19 : decode cX12_name 19 = .ok (.iastore, 1) := by decide +kernel
theorem dX12_name_20 : decode cX12_name 20 = .ok (.aload_n 0, 1) := by decide +kernel
theorem dX12_name_21 : decode cX12_name 21 = .ok (.getfield 32, 3) := by decide +kernel
theorem dX12_name_24 : decode cX12_name 24 = .ok (.iconst 1, 1) := by decide +kernel
theorem dX12_name_25 : decode cX12_name 25 = .ok (.iload_n 1, 1) := by decide +kernel
theorem dX12_name_26 : decode cX12_name 26 = .ok (.iastore, 1) := by decide +kernel
theorem dX12_name_27 : decode cX12_name 27 = .ok (.aload_n 0, 1) := by decide +kernel
theorem dX12_name_28 : decode cX12_name 28 = .ok (.getfield 32, 3) := by decide +kernel
theorem dX12_name_31 : decode cX12_name 31 = .ok (.iconst 2, 1) := by decide +kernel
theorem dX12_name_32 : decode cX12_name 32 = .ok (.aload_n 0, 1) := by decide +kernel
theorem dX12_name_33 : decode cX12_name 33 = .ok (.iload_n 1, 1) := by decide +kernel
theorem dX12_name_34 : decode cX12_name 34 = .ok (.iconst 2, 1) := by decide +kernel
theorem dX12_name_35 : decode cX12_name 35 = .ok (.invokevirtual 105, 3) := by decide +kernel
theorem dX12_name_38 : decode cX12_name 38 = .ok (.iastore, 1) := by decide +kernel
theorem dX12_name_39 : decode cX12_name 39 = .ok (.aload_n 0, 1) := by decide +kernel
theorem dX12_name_40 : decode cX12_name 40 = .ok (.getfield 32, 3) := by decide +kernel
theorem dX12_name_43 : decode cX12_name 43 = .ok (.iconst 3, 1) := by decide +kernel
theorem dX12_name_44 : decode cX12_name 44 = .ok (.aload_n 0, 1) := by decide +kernel
theorem dX12_name_45 : decode cX12_name 45 = .ok (.iload_n 1, 1) := by decide +kernel
theorem dX12_name_46 : decode cX12_name 46 = .ok (.iconst 3, 1) := by decide +kernel
theorem dX12_name_47 : decode cX12_name 47 = .ok (.invokevirtual 105, 3) := by decide +kernel
theorem dX12_name_50 : decode cX12_name 50 = .ok (.iastore, 1) := by decide +kernel
theorem dX12_name_51 : decode cX12_name 51 = .ok (.aload_n 0, 1) := by decide +kernel
theorem dX12_name_52 : decode cX12_name 52 = .ok (.getfield 32, 3) := by decide +kernel
theorem dX12_name_55 : decode cX12_name 55 = .ok (.iconst 4, 1) := by decide +kernel
theorem dX12_name_56 : decode cX12_name 56 = .ok (.iload_n 2, 1) := by decide +kernel
theorem dX12_name_57 : decode cX12_name 57 = .ok (.iastore, 1) := by decide +kernel
theorem dX12_name_58 : decode cX12_name 58 = .ok (.aload_n 0, 1) := by decide +kernel
theorem dX12_name_59 : decode cX12_name 59 = .ok (.getfield 32, 3) := by decide +kernel
theorem dX12_name_62 : decode cX12_name 62 = .ok (.iconst 5, 1) := by decide +kernel
theorem dX12_name_63 : decode cX12_name 63 = .ok (.aload_n 0, 1) := by decide +kernel
theorem dX12_name_64 : decode cX12_name 64 = .ok (.getfield 7, 3) := by decide +kernel
theorem dX12_name_67 : decode cX12_name 67 = .ok (.bipush 70, 2) := by decide +kernel
theorem dX12_name_69 : decode cX12_name 69 = .ok (.iload_n 2, 1) := by decide +kernel
theorem dX12_name_70 : decode cX12_name 70 = .ok (.iadd, 1) := by decide +kernel
theorem dX12_name_71 : decode cX12_name 71 = .ok (.iaload, 1) := by decide +kernel
theorem dX12_name_72 : decode cX12_name 72 = .ok (.iastore, 1) := by decide +kernel
theorem dX12_name_73 : decode cX12_name 73 = .ok (.aload_n 0, 1) := by decide +kernel
theorem dX12_name_74 : decode cX12_name 74 = .ok (.getfield 32, 3) := by decide +kernel
theorem dX12_name_77 : decode cX12_name 77 = .ok (.bipush 6, 2) := by decide +kernel
theorem dX12_name_79 : decode cX12_name 79 = .ok (.aload_n 0, 1) := by decide +kernel
theorem dX12_name_80 : decode cX12_name 80 = .ok (.getfield 7, 3) := by decide +kernel
theorem dX12_name_83 : decode cX12_name 83 = .ok (.bipush 40, 2) := by decide +kernel
theorem dX12_name_85 : decode cX12_name 85 = .ok (.iload_n 2, 1) := by decide +kernel
theorem dX12_name_86 : decode cX12_name 86 = .ok (.iadd, 1) := by decide +kernel
theorem dX12_name_87 : decode cX12_name 87 = .ok (.iaload, 1) := by decide +kernel
theorem dX12_name_88 : decode cX12_name 88 = .ok (.iastore, 1) := by decide +kernel
theorem dX12_name_89 : decode cX12_name 89 = .ok (.return_, 1) := by decide +kernel
theorem dX12_wantsOf_0 : decode cX12_wantsOf 0 = .ok (.aload_n 0, 1) := by decide +kernel
theorem dX12_wantsOf_1 : decode cX12_wantsOf 1 = .ok (.aload_n 0, 1) := by decide +kernel
theorem dX12_wantsOf_2 : decode cX12_wantsOf 2 = .ok (.getfield 7, 3) := by decide +kernel
theorem dX12_wantsOf_5 : decode cX12_wantsOf 5 = .ok (.bipush 7, 2) := by decide +kernel
theorem dX12_wantsOf_7 : decode cX12_wantsOf 7 = .ok (.iaload, 1) := by decide +kernel
theorem dX12_wantsOf_8 : decode cX12_wantsOf 8 = .ok (.aload_n 0, 1) := by decide +kernel
theorem dX12_wantsOf_9 : decode cX12_wantsOf 9 = .ok (.iload_n 2, 1) := by decide +kernel
theorem dX12_wantsOf_10 : decode cX12_wantsOf 10 = .ok (.iconst 0, 1) := by decide +kernel
theorem dX12_wantsOf_11 : decode cX12_wantsOf 11 = .ok (.invokevirtual 105, 3) := by decide +kernel
theorem dX12_wantsOf_14 : decode cX12_wantsOf 14 = .ok (.invokevirtual 330, 3) := by decide +kernel
theorem dX12_wantsOf_17 : decode cX12_wantsOf 17 = .ok (.istore_n 3, 1) := by decide +kernel
theorem dX12_wantsOf_18 : decode cX12_wantsOf 18 = .ok (.aload_n 0, 1) := by decide +kernel
theorem dX12_wantsOf_19 : decode cX12_wantsOf 19 = .ok (.iload_n 2, 1) := by decide +kernel
theorem dX12_wantsOf_20 : decode cX12_wantsOf 20 = .ok (.invokevirtual 333, 3) := by decide +kernel
theorem dX12_wantsOf_23 : decode cX12_wantsOf 23 = .ok (.aload_n 0, 1) := by decide +kernel
theorem dX12_wantsOf_24 : decode cX12_wantsOf 24 = .ok (.getfield 32, 3) := by decide +kernel
theorem dX12_wantsOf_27 : decode cX12_wantsOf 27 = .ok (.bipush 7, 2) := by decide +kernel
theorem dX12_wantsOf_29 : decode cX12_wantsOf 29 = .ok (.iload_n 3, 1) := by decide +kernel
theorem dX12_wantsOf_30 : decode cX12_wantsOf 30 = .ok (.iconst (-1), 1) := by decide +kernel
theorem dX12_wantsOf_31 : decode cX12_wantsOf 31 = .ok (.if_icmp .ne 8, 3) := by decide +kernel
theorem dX12_wantsOf_34 : decode cX12_wantsOf 34 = .ok (.bipush 99, 2) := by decide +kernel
theorem dX12_wantsOf_36 : decode cX12_wantsOf 36 = .ok (.goto 4, 3) := by decide +kernel
theorem dX12_wantsOf_39 : decode cX12_wantsOf 39 = .ok (.iload_n 3, 1) := by decide +kernel
theorem dX12_wantsOf_40 : decode cX12_wantsOf 40 = .ok (.iastore, 1) := by decide +kernel
theorem dX12_wantsOf_41 : decode cX12_wantsOf 41 = .ok (.aload_n 0, 1) := by decide +kernel
theorem dX12_wantsOf_42 : decode cX12_wantsOf 42 = .ok (.iload_n 1, 1) := by decide +kernel
theorem dX12_wantsOf_43 : decode cX12_wantsOf 43 = .ok (.iconst 0, 1) := by decide +kernel
theorem dX12_wantsOf_44 : decode cX12_wantsOf 44 = .ok (.bipush 99, 2) := by decide +kernel
theorem dX12_wantsOf_46 : decode cX12_wantsOf 46 = .ok (.aload_n 0, 1) := by decide +kernel
theorem dX12_wantsOf_47 : decode cX12_wantsOf 47 = .ok (.getfield 32, 3) := by decide +kernel
theorem dX12_wantsOf_50 : decode cX12_wantsOf 50 = .ok (.bipush 7, 2) := by decide +kernel
theorem dX12_wantsOf_52 : decode cX12_wantsOf 52 = .ok (.iaload, 1) := by decide +kernel
theorem dX12_wantsOf_53 : decode cX12_wantsOf 53 = .ok (.isub, 1) := by decide +kernel
theorem dX12_wantsOf_54 : decode cX12_wantsOf 54 = .ok (.sipush (-999), 3) := by decide +kernel
theorem dX12_wantsOf_57 : decode cX12_wantsOf 57 = .ok (.sipush 999, 3) := by decide +kernel
theorem dX12_wantsOf_60 : decode cX12_wantsOf 60 = .ok (.invokevirtual 336, 3) := by decide +kernel
theorem dX12_wantsOf_63 : decode cX12_wantsOf 63 = .ok (.ireturn, 1) := by decide +kernel
theorem dX12_poursOf_0 : decode cX12_poursOf 0 = .ok (.aload_n 0, 1) := by decide +kernel
theorem dX12_poursOf_1 : decode cX12_poursOf 1 = .ok (.iload_n 1, 1) := by decide +kernel
theorem dX12_poursOf_2 : decode cX12_poursOf 2 = .ok (.invokevirtual 333, 3) := by decide +kernel
theorem dX12_poursOf_5 : decode cX12_poursOf 5 = .ok (.aload_n 0, 1) := by decide +kernel
theorem dX12_poursOf_6 : decode cX12_poursOf 6 = .ok (.aload_n 0, 1) := by decide +kernel
theorem dX12_poursOf_7 : decode cX12_poursOf 7 = .ok (.getfield 7, 3) := by decide +kernel
theorem dX12_poursOf_10 : decode cX12_poursOf 10 = .ok (.iconst 2, 1) := by decide +kernel
theorem dX12_poursOf_11 : decode cX12_poursOf 11 = .ok (.iaload, 1) := by decide +kernel
theorem dX12_poursOf_12 : decode cX12_poursOf 12 = .ok (.iconst 1, 1) := by decide +kernel
theorem dX12_poursOf_13 : decode cX12_poursOf 13 = .ok (.iconst 3, 1) := by decide +kernel
theorem dX12_poursOf_14 : decode cX12_poursOf 14 = .ok (.iconst 0, 1) := by decide +kernel
theorem dX12_poursOf_15 : decode cX12_poursOf 15 = .ok (.bipush 9, 2) := by decide +kernel
theorem dX12_poursOf_17 : decode cX12_poursOf 17 = .ok (.invokevirtual 336, 3) := by decide +kernel
theorem dX12_poursOf_20 : decode cX12_poursOf 20 = .ok (.ireturn, 1) := by decide +kernel
theorem dX12_goesFor_0 : decode cX12_goesFor 0 = .ok (.iconst (-1), 1) := by decide +kernel
theorem dX12_goesFor_1 : decode cX12_goesFor 1 = .ok (.istore_n 1, 1) := by decide +kernel
theorem dX12_goesFor_2 : decode cX12_goesFor 2 = .ok (.iconst 0, 1) := by decide +kernel
theorem dX12_goesFor_3 : decode cX12_goesFor 3 = .ok (.istore_n 2, 1) := by decide +kernel
theorem dX12_goesFor_4 : decode cX12_goesFor 4 = .ok (.iconst 0, 1) := by decide +kernel
theorem dX12_goesFor_5 : decode cX12_goesFor 5 = .ok (.istore_n 3, 1) := by decide +kernel
theorem dX12_goesFor_6 : decode cX12_goesFor 6 = .ok (.iload_n 3, 1) := by decide +kernel
theorem dX12_goesFor_7 : decode cX12_goesFor 7 = .ok (.aload_n 0, 1) := by decide +kernel
theorem dX12_goesFor_8 : decode cX12_goesFor 8 = .ok (.getfield 7, 3) := by decide +kernel
theorem dX12_goesFor_11 : decode cX12_goesFor 11 = .ok (.iconst 0, 1) := by decide +kernel
theorem dX12_goesFor_12 : decode cX12_goesFor 12 = .ok (.iaload, 1) := by decide +kernel
theorem dX12_goesFor_13 : decode cX12_goesFor 13 = .ok (.if_icmp .ge 74, 3) := by decide +kernel
theorem dX12_goesFor_16 : decode cX12_goesFor 16 = .ok (.aload_n 0, 1) := by decide +kernel
theorem dX12_goesFor_17 : decode cX12_goesFor 17 = .ok (.iload_n 3, 1) := by decide +kernel
theorem dX12_goesFor_18 : decode cX12_goesFor 18 = .ok (.iconst 1, 1) := by decide +kernel
theorem dX12_goesFor_19 : decode cX12_goesFor 19 = .ok (.invokevirtual 105, 3) := by decide +kernel
theorem dX12_goesFor_22 : decode cX12_goesFor 22 = .ok (.ifCond .eq 59, 3) := by decide +kernel
theorem dX12_goesFor_25 : decode cX12_goesFor 25 = .ok (.aload_n 0, 1) := by decide +kernel
theorem dX12_goesFor_26 : decode cX12_goesFor 26 = .ok (.aload_n 0, 1) := by decide +kernel
theorem dX12_goesFor_27 : decode cX12_goesFor 27 = .ok (.getfield 7, 3) := by decide +kernel
theorem dX12_goesFor_30 : decode cX12_goesFor 30 = .ok (.bipush 7, 2) := by decide +kernel
theorem dX12_goesFor_32 : decode cX12_goesFor 32 = .ok (.iaload, 1) := by decide +kernel
theorem dX12_goesFor_33 : decode cX12_goesFor 33 = .ok (.aload_n 0, 1) := by decide +kernel
theorem dX12_goesFor_34 : decode cX12_goesFor 34 = .ok (.iload_n 3, 1) := by decide +kernel
theorem dX12_goesFor_35 : decode cX12_goesFor 35 = .ok (.iconst 0, 1) := by decide +kernel
theorem dX12_goesFor_36 : decode cX12_goesFor 36 = .ok (.invokevirtual 105, 3) := by decide +kernel
theorem dX12_goesFor_39 : decode cX12_goesFor 39 = .ok (.invokevirtual 330, 3) := by decide +kernel
theorem dX12_goesFor_42 : decode cX12_goesFor 42 = .ok (.iconst (-1), 1) := by decide +kernel
theorem dX12_goesFor_43 : decode cX12_goesFor 43 = .ok (.if_icmp .ne 6, 3) := by decide +kernel
theorem dX12_goesFor_46 : decode cX12_goesFor 46 = .ok (.goto 35, 3) := by decide +kernel
theorem dX12_goesFor_49 : decode cX12_goesFor 49 = .ok (.aload_n 0, 1) := by decide +kernel
theorem dX12_goesFor_50 : decode cX12_goesFor 50 = .ok (.aload_n 0, 1) := by decide +kernel
theorem dX12_goesFor_51 : decode cX12_goesFor 51 = .ok (.getfield 7, 3) := by decide +kernel
theorem dX12_goesFor_54 : decode cX12_goesFor 54 = .ok (.iconst 2, 1) := by decide +kernel
theorem dX12_goesFor_55 : decode cX12_goesFor 55 = .ok (.iaload, 1) := by decide +kernel
theorem dX12_goesFor_56 : decode cX12_goesFor 56 = .ok (.iload_n 3, 1) := by decide +kernel
theorem dX12_goesFor_57 : decode cX12_goesFor 57 = .ok (.invokevirtual 340, 3) := by decide +kernel
theorem dX12_goesFor_60 : decode cX12_goesFor 60 = .ok (.istore 4, 2) := by decide +kernel
theorem dX12_goesFor_62 : decode cX12_goesFor 62 = .ok (.iload_n 1, 1) := by decide +kernel
theorem dX12_goesFor_63 : decode cX12_goesFor 63 = .ok (.iconst (-1), 1) := by decide +kernel
theorem dX12_goesFor_64 : decode cX12_goesFor 64 = .ok (.if_icmp .eq 12, 3) := by decide +kernel
theorem dX12_goesFor_67 : decode cX12_goesFor 67 = .ok (.iload 4, 2) := by decide +kernel
theorem dX12_goesFor_69 : decode cX12_goesFor 69 = .ok (.iload_n 2, 1) := by decide +kernel
theorem dX12_goesFor_70 : decode cX12_goesFor 70 = .ok (.if_icmp .gt 6, 3) := by decide +kernel
theorem dX12_goesFor_73 : decode cX12_goesFor 73 = .ok (.goto 8, 3) := by decide +kernel
theorem dX12_goesFor_76 : decode cX12_goesFor 76 = .ok (.iload 4, 2) := by decide +kernel
theorem dX12_goesFor_78 : decode cX12_goesFor 78 = .ok (.istore_n 2, 1) := by decide +kernel
theorem dX12_goesFor_79 : decode cX12_goesFor 79 = .ok (.iload_n 3, 1) := by decide +kernel
theorem dX12_goesFor_80 : decode cX12_goesFor 80 = .ok (.istore_n 1, 1) := by decide +kernel
theorem dX12_goesFor_81 : decode cX12_goesFor 81 = .ok (.iinc 3 1, 3) := by decide +kernel
theorem dX12_goesFor_84 : decode cX12_goesFor 84 = .ok (.goto (-78), 3) := by decide +kernel
theorem dX12_goesFor_87 : decode cX12_goesFor 87 = .ok (.iload_n 1, 1) := by decide +kernel
theorem dX12_goesFor_88 : decode cX12_goesFor 88 = .ok (.ireturn, 1) := by decide +kernel
theorem dX12_write_0 : decode cX12_write 0 = .ok (.aload_n 0, 1) := by decide +kernel
theorem dX12_write_1 : decode cX12_write 1 = .ok (.getfield 46, 3) := by decide +kernel
theorem dX12_write_4 : decode cX12_write 4 = .ok (.ifCond .ne 4, 3) := by decide +kernel
theorem dX12_write_7 : decode cX12_write 7 = .ok (.return_, 1) := by decide +kernel
theorem dX12_write_8 : decode cX12_write 8 = .ok (.aload_n 0, 1) := by decide +kernel
theorem dX12_write_9 : decode cX12_write 9 = .ok (.getfield 7, 3) := by decide +kernel
theorem dX12_write_12 : decode cX12_write 12 = .ok (.bipush 9, 2) := by decide +kernel
theorem dX12_write_14 : decode cX12_write 14 = .ok (.iaload, 1) := by decide +kernel
theorem dX12_write_15 : decode cX12_write 15 = .ok (.bipush 30, 2) := by decide +kernel
theorem dX12_write_17 : decode cX12_write 17 = .ok (.if_icmp .ne 50, 3) := by decide +kernel
theorem dX12_write_20 : decode cX12_write 20 = .ok (.iconst 2, 1) := by decide +kernel
theorem dX12_write_21 : decode cX12_write 21 = .ok (.istore_n 3, 1) := by decide +kernel
theorem dX12_write_22 : decode cX12_write 22 = .ok (.iload_n 3, 1) := by decide +kernel
theorem dX12_write_23 : decode cX12_write 23 = .ok (.bipush 60, 2) := by decide +kernel
theorem dX12_write_25 : decode cX12_write 25 = .ok (.if_icmp .ge 31, 3) := by decide +kernel
theorem dX12_write_28 : decode cX12_write 28 = .ok (.aload_n 0, 1) := by decide +kernel
theorem dX12_write_29 : decode cX12_write 29 = .ok (.getfield 7, 3) := by decide +kernel
theorem dX12_write_32 : decode cX12_write 32 = .ok (.sipush 3643, 3) := by decide +kernel
theorem dX12_write_35 : decode cX12_write 35 = .ok (.iload_n 3, 1) := by decide +kernel
theorem dX12_write_36 : decode cX12_write 36 = .ok (.iadd, 1) := by decide +kernel
theorem dX12_write_37 : decode cX12_write 37 = .ok (.iconst 2, 1) := by decide +kernel
theorem dX12_write_38 : decode cX12_write 38 = .ok (.isub, 1) := by decide +kernel
theorem dX12_write_39 : decode cX12_write 39 = .ok (.aload_n 0, 1) := by decide +kernel
theorem dX12_write_40 : decode cX12_write 40 = .ok (.getfield 7, 3) := by decide +kernel
theorem dX12_write_43 : decode cX12_write 43 = .ok (.sipush 3643, 3) := by decide +kernel
theorem dX12_write_46 : decode cX12_write 46 = .ok (.iload_n 3, 1) := by decide +kernel
theorem dX12_write_47 : decode cX12_write 47 = .ok (.iadd, 1) := by decide +kernel
theorem dX12_write_48 : decode cX12_write 48 = .ok (.iaload, 1) := by decide +kernel
theorem dX12_write_49 : decode cX12_write 49 = .ok (.iastore, 1) := by decide +kernel
theorem dX12_write_50 : decode cX12_write 50 = .ok (.iinc 3 1, 3) := by decide +kernel
theorem dX12_write_53 : decode cX12_write 53 = .ok (.goto (-31), 3) := by decide +kernel
theorem dX12_write_56 : decode cX12_write 56 = .ok (.aload_n 0, 1) := by decide +kernel
theorem dX12_write_57 : decode cX12_write 57 = .ok (.getfield 7, 3) := by decide +kernel
theorem dX12_write_60 : decode cX12_write 60 = .ok (.bipush 9, 2) := by decide +kernel
theorem dX12_write_62 : decode cX12_write 62 = .ok (.dup2, 1) := by decide +kernel
theorem dX12_write_63 : decode cX12_write 63 = .ok (.iaload, 1) := by decide +kernel
theorem dX12_write_64 : decode cX12_write 64 = .ok (.iconst 1, 1) := by decide +kernel
theorem dX12_write_65 : decode cX12_write 65 = .ok (.isub, 1) := by decide +kernel
theorem dX12_write_66 : decode cX12_write 66 = .ok (.iastore, 1) := by decide +kernel
theorem dX12_write_67 : decode cX12_write 67 = .ok (.aload_n 0, 1) := by decide +kernel
theorem dX12_write_68 : decode cX12_write 68 = .ok (.getfield 7, 3) := by decide +kernel
theorem dX12_write_71 : decode cX12_write 71 = .ok (.sipush 3643, 3) := by decide +kernel
theorem dX12_write_74 : decode cX12_write 74 = .ok (.iconst 2, 1) := by decide +kernel
theorem dX12_write_75 : decode cX12_write 75 = .ok (.aload_n 0, 1) := by decide +kernel
theorem dX12_write_76 : decode cX12_write 76 = .ok (.getfield 7, 3) := by decide +kernel
theorem dX12_write_79 : decode cX12_write 79 = .ok (.bipush 9, 2) := by decide +kernel
theorem dX12_write_81 : decode cX12_write 81 = .ok (.iaload, 1) := by decide +kernel
theorem dX12_write_82 : decode cX12_write 82 = .ok (.imul, 1) := by decide +kernel
theorem dX12_write_83 : decode cX12_write 83 = .ok (.iadd, 1) := by decide +kernel
theorem dX12_write_84 : decode cX12_write 84 = .ok (.aload_n 0, 1) := by decide +kernel
theorem dX12_write_85 : decode cX12_write 85 = .ok (.getfield 7, 3) := by decide +kernel
theorem dX12_write_88 : decode cX12_write 88 = .ok (.bipush 6, 2) := by decide +kernel
theorem dX12_write_90 : decode cX12_write 90 = .ok (.iaload, 1) := by decide +kernel
theorem dX12_write_91 : decode cX12_write 91 = .ok (.iastore, 1) := by decide +kernel
theorem dX12_write_92 : decode cX12_write 92 = .ok (.aload_n 0, 1) := by decide +kernel
theorem dX12_write_93 : decode cX12_write 93 = .ok (.getfield 7, 3) := by decide +kernel
theorem dX12_write_96 : decode cX12_write 96 = .ok (.sipush 3643, 3) := by decide +kernel
theorem dX12_write_99 : decode cX12_write 99 = .ok (.iconst 2, 1) := by decide +kernel
theorem dX12_write_100 : decode cX12_write 100 = .ok (.aload_n 0, 1) := by decide +kernel
theorem dX12_write_101 : decode cX12_write 101 = .ok (.getfield 7, 3) := by decide +kernel
theorem dX12_write_104 : decode cX12_write 104 = .ok (.bipush 9, 2) := by decide +kernel
theorem dX12_write_106 : decode cX12_write 106 = .ok (.iaload, 1) := by decide +kernel
theorem dX12_write_107 : decode cX12_write 107 = .ok (.imul, 1) := by decide +kernel
theorem dX12_write_108 : decode cX12_write 108 = .ok (.iadd, 1) := by decide +kernel
theorem dX12_write_109 : decode cX12_write 109 = .ok (.iconst 1, 1) := by decide +kernel
theorem dX12_write_110 : decode cX12_write 110 = .ok (.iadd, 1) := by decide +kernel
theorem dX12_write_111 : decode cX12_write 111 = .ok (.iload_n 1, 1) := by decide +kernel
theorem dX12_write_112 : decode cX12_write 112 = .ok (.bipush 30, 2) := by decide +kernel
theorem dX12_write_114 : decode cX12_write 114 = .ok (.imul, 1) := by decide +kernel
theorem dX12_write_115 : decode cX12_write 115 = .ok (.aload_n 0, 1) := by decide +kernel
theorem dX12_write_116 : decode cX12_write 116 = .ok (.iload_n 1, 1) := by decide +kernel
theorem dX12_write_117 : decode cX12_write 117 = .ok (.iconst 0, 1) := by decide +kernel
theorem dX12_write_118 : decode cX12_write 118 = .ok (.invokevirtual 105, 3) := by decide +kernel
theorem dX12_write_121 : decode cX12_write 121 = .ok (.iadd, 1) := by decide +kernel
theorem dX12_write_122 : decode cX12_write 122 = .ok (.bipush 100, 2) := by decide +kernel
theorem dX12_write_124 : decode cX12_write 124 = .ok (.imul, 1) := by decide +kernel
theorem dX12_write_125 : decode cX12_write 125 = .ok (.iload_n 2, 1) := by decide +kernel
theorem dX12_write_126 : decode cX12_write 126 = .ok (.iadd, 1) := by decide +kernel
theorem dX12_write_127 : decode cX12_write 127 = .ok (.iastore, 1) := by decide +kernel
theorem dX12_write_128 : decode cX12_write 128 = .ok (.aload_n 0, 1) := by decide +kernel
theorem dX12_write_129 : decode cX12_write 129 = .ok (.getfield 7, 3) := by decide +kernel
theorem dX12_write_132 : decode cX12_write 132 = .ok (.bipush 9, 2) := by decide +kernel
theorem dX12_write_134 : decode cX12_write 134 = .ok (.dup2, 1) := by decide +kernel
theorem dX12_write_135 : decode cX12_write 135 = .ok (.iaload, 1) := by decide +kernel
theorem dX12_write_136 : decode cX12_write 136 = .ok (.iconst 1, 1) := by decide +kernel
theorem dX12_write_137 : decode cX12_write 137 = .ok (.iadd, 1) := by decide +kernel
theorem dX12_write_138 : decode cX12_write 138 = .ok (.iastore, 1) := by decide +kernel
theorem dX12_write_139 : decode cX12_write 139 = .ok (.return_, 1) := by decide +kernel
theorem dX12_drawnBy_0 : decode cX12_drawnBy 0 = .ok (.aload_n 0, 1) := by decide +kernel
theorem dX12_drawnBy_1 : decode cX12_drawnBy 1 = .ok (.getfield 7, 3) := by decide +kernel
theorem dX12_drawnBy_4 : decode cX12_drawnBy 4 = .ok (.bipush 8, 2) := by decide +kernel
theorem dX12_drawnBy_6 : decode cX12_drawnBy 6 = .ok (.iaload, 1) := by decide +kernel
theorem dX12_drawnBy_7 : decode cX12_drawnBy 7 = .ok (.iload_n 1, 1) := by decide +kernel
theorem dX12_drawnBy_8 : decode cX12_drawnBy 8 = .ok (.irem, 1) := by decide +kernel
theorem dX12_drawnBy_9 : decode cX12_drawnBy 9 = .ok (.istore_n 2, 1) := by decide +kernel
theorem dX12_drawnBy_10 : decode cX12_drawnBy 10 = .ok (.aload_n 0, 1) := by decide +kernel
theorem dX12_drawnBy_11 : decode cX12_drawnBy 11 = .ok (.invokevirtual 343, 3) := by decide +kernel
theorem dX12_drawnBy_14 : decode cX12_drawnBy 14 = .ok (.iload_n 2, 1) := by decide +kernel
theorem dX12_drawnBy_15 : decode cX12_drawnBy 15 = .ok (.ireturn, 1) := by decide +kernel
theorem dX12_anew_0 : decode cX12_anew 0 = .ok (.aload_n 0, 1) := by decide +kernel
theorem dX12_anew_1 : decode cX12_anew 1 = .ok (.getfield 7, 3) := by decide +kernel
theorem dX12_anew_4 : decode cX12_anew 4 = .ok (.bipush 8, 2) := by decide +kernel
theorem dX12_anew_6 : decode cX12_anew 6 = .ok (.aload_n 0, 1) := by decide +kernel
theorem dX12_anew_7 : decode cX12_anew 7 = .ok (.getfield 7, 3) := by decide +kernel
theorem dX12_anew_10 : decode cX12_anew 10 = .ok (.bipush 8, 2) := by decide +kernel
theorem dX12_anew_12 : decode cX12_anew 12 = .ok (.iaload, 1) := by decide +kernel
theorem dX12_anew_13 : decode cX12_anew 13 = .ok (.i2l, 1) := by decide +kernel
theorem dX12_anew_14 : decode cX12_anew 14 = .ok (.ldc2_w 346, 3) := by decide +kernel
theorem dX12_anew_17 : decode cX12_anew 17 = .ok (.lmul, 1) := by decide +kernel
theorem dX12_anew_18 : decode cX12_anew 18 = .ok (.ldc2_w 348, 3) := by decide +kernel
theorem dX12_anew_21 : decode cX12_anew 21 = .ok (.ladd, 1) := by decide +kernel
theorem dX12_anew_22 : decode cX12_anew 22 = .ok (.ldc2_w 350, 3) := by decide +kernel
theorem dX12_anew_25 : decode cX12_anew 25 = .ok (.lrem, 1) := by decide +kernel
theorem dX12_anew_26 : decode cX12_anew 26 = .ok (.l2i, 1) := by decide +kernel
theorem dX12_anew_27 : decode cX12_anew 27 = .ok (.iastore, 1) := by decide +kernel
