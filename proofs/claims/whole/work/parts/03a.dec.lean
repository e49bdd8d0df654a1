theorem dX0_init_0 : decode cX0_init 0 = .ok (.aload_n 0, 1) := by decide +kernel
theorem dX0_init_1 : decode cX0_init 1 = .ok (.invokespecial 3, 3) := by decide +kernel
theorem dX0_init_4 : decode cX0_init 4 = .ok (.aload_n 0, 1) := by decide +kernel
theorem dX0_init_5 : decode cX0_init 5 = .ok (.iconst (-1), 1) := by decide +kernel
theorem dX0_init_6 : decode cX0_init 6 = .ok (.putfield 9, 3) := by decide +kernel
theorem dX0_init_9 : decode cX0_init 9 = .ok (.aload_n 0, 1) := by decide +kernel
theorem dX0_init_10 : decode cX0_init 10 = .ok (.iconst (-1), 1) := by decide +kernel
theorem dX0_init_11 : decode cX0_init 11 = .ok (.putfield 15, 3) := by decide +kernel
theorem dX0_init_14 : decode cX0_init 14 = .ok (.aload_n 0, 1) := by decide +kernel
theorem dX0_init_15 : decode cX0_init 15 = .ok (.bipush 30, 2) := by decide +kernel
theorem dX0_init_17 : decode cX0_init 17 = .ok (.newarray .int, 2) := by decide +kernel
theorem dX0_init_19 : decode cX0_init 19 = .ok (.putfield 18, 3) := by decide +kernel
theorem dX0_init_22 : decode cX0_init 22 = .ok (.aload_n 0, 1) := by decide +kernel
theorem dX0_init_23 : decode cX0_init 23 = .ok (.bipush 30, 2) := by decide +kernel
theorem dX0_init_25 : decode cX0_init 25 = .ok (.newarray .int, 2) := by decide +kernel
theorem dX0_init_27 : decode cX0_init 27 = .ok (.putfield 22, 3) := by decide +kernel
theorem dX0_init_30 : decode cX0_init 30 = .ok (.return_, 1) := by decide +kernel
theorem dX0_play_0 : decode cX0_play 0 = .ok (.aload_n 0, 1) := by decide +kernel
theorem dX0_play_1 : decode cX0_play 1 = .ok (.iconst 0, 1) := by decide +kernel
theorem dX0_play_2 : decode cX0_play 2 = .ok (.putfield 9, 3) := by decide +kernel
theorem dX0_play_5 : decode cX0_play 5 = .ok (.aload_n 0, 1) := by decide +kernel
theorem dX0_play_6 : decode cX0_play 6 = .ok (.iload_n 1, 1) := by decide +kernel
theorem dX0_play_7 : decode cX0_play 7 = .ok (.putfield 15, 3) := by decide +kernel
theorem dX0_play_10 : decode cX0_play 10 = .ok (.iload_n 1, 1) := by decide +kernel
theorem dX0_play_11 : decode cX0_play 11 = .ok (.iload_n 2, 1) := by decide +kernel
theorem dX0_play_12 : decode cX0_play 12 = .ok (.if_icmp .ne 4, 3) := by decide +kernel
theorem dX0_play_15 : decode cX0_play 15 = .ok (.return_, 1) := by decide +kernel
theorem dX0_play_16 : decode cX0_play 16 = .ok (.iconst 0, 1) := by decide +kernel
theorem dX0_play_17 : decode cX0_play 17 = .ok (.istore 5, 2) := by decide +kernel
theorem dX0_play_19 : decode cX0_play 19 = .ok (.iload 5, 2) := by decide +kernel
theorem dX0_play_21 : decode cX0_play 21 = .ok (.bipush 30, 2) := by decide +kernel
theorem dX0_play_23 : decode cX0_play 23 = .ok (.if_icmp .ge 20, 3) := by decide +kernel
theorem dX0_play_26 : decode cX0_play 26 = .ok (.aload_n 0, 1) := by decide +kernel
theorem dX0_play_27 : decode cX0_play 27 = .ok (.getfield 18, 3) := by decide +kernel
theorem dX0_play_30 : decode cX0_play 30 = .ok (.iload 5, 2) := by decide +kernel
theorem dX0_play_32 : decode cX0_play 32 = .ok (.iconst 1, 1) := by decide +kernel
theorem dX0_play_33 : decode cX0_play 33 = .ok (.iload 5, 2) := by decide +kernel
theorem dX0_play_35 : decode cX0_play 35 = .ok (.ishl, 1) := by decide +kernel
theorem dX0_play_36 : decode cX0_play 36 = .ok (.iastore, 1) := by decide +kernel
theorem dX0_play_37 : decode cX0_play 37 = .ok (.iinc 5 1, 3) := by decide +kernel
theorem dX0_play_40 : decode cX0_play 40 = .ok (.goto (-21), 3) := by decide +kernel
theorem dX0_play_43 : decode cX0_play 43 = .ok (.iconst 1, 1) := by decide +kernel
theorem dX0_play_44 : decode cX0_play 44 = .ok (.iload_n 1, 1) := by decide +kernel
theorem dX0_play_45 : decode cX0_play 45 = .ok (.ishl, 1) := by decide +kernel
theorem dX0_play_46 : decode cX0_play 46 = .ok (.iconst 1, 1) := by decide +kernel
theorem dX0_play_47 : decode cX0_play 47 = .ok (.iload_n 1, 1) := by decide +kernel
theorem dX0_play_48 : decode cX0_play 48 = .ok (.ishl, 1) := by decide +kernel
theorem dX0_play_49 : decode cX0_play 49 = .ok (.invokestatic 25, 3) := by decide +kernel
theorem dX0_play_52 : decode cX0_play 52 = .ok (.ior, 1) := by decide +kernel
theorem dX0_play_53 : decode cX0_play 53 = .ok (.iload 4, 2) := by decide +kernel
theorem dX0_play_55 : decode cX0_play 55 = .ok (.iand, 1) := by decide +kernel
theorem dX0_play_56 : decode cX0_play 56 = .ok (.istore 5, 2) := by decide +kernel
theorem dX0_play_58 : decode cX0_play 58 = .ok (.iconst 1, 1) := by decide +kernel
theorem dX0_play_59 : decode cX0_play 59 = .ok (.istore 6, 2) := by decide +kernel
theorem dX0_play_61 : decode cX0_play 61 = .ok (.iconst 1, 1) := by decide +kernel
theorem dX0_play_62 : decode cX0_play 62 = .ok (.istore 7, 2) := by decide +kernel
theorem dX0_play_64 : decode cX0_play 64 = .ok (.iload 7, 2) := by decide +kernel
theorem dX0_play_66 : decode cX0_play 66 = .ok (.sipush 900, 3) := by decide +kernel
theorem dX0_play_69 : decode cX0_play 69 = .ok (.if_icmp .gt 63, 3) := by decide +kernel
theorem dX0_play_72 : decode cX0_play 72 = .ok (.iload 6, 2) := by decide +kernel
theorem dX0_play_74 : decode cX0_play 74 = .ok (.ifCond .eq 58, 3) := by decide +kernel
theorem dX0_play_77 : decode cX0_play 77 = .ok (.aload_n 0, 1) := by decide +kernel
theorem dX0_play_78 : decode cX0_play 78 = .ok (.iload_n 3, 1) := by decide +kernel
theorem dX0_play_79 : decode cX0_play 79 = .ok (.iload 4, 2) := by decide +kernel
theorem dX0_play_81 : decode cX0_play 81 = .ok (.invokevirtual 31, 3) := by decide +kernel
theorem dX0_play_84 : decode cX0_play 84 = .ok (.aload_n 0, 1) := by decide +kernel
theorem dX0_play_85 : decode cX0_play 85 = .ok (.iload 5, 2) := by decide +kernel
theorem dX0_play_87 : decode cX0_play 87 = .ok (.iload_n 2, 1) := by decide +kernel
theorem dX0_play_88 : decode cX0_play 88 = .ok (.invokevirtual 35, 3) := by decide +kernel
theorem dX0_play_91 : decode cX0_play 91 = .ok (.istore 8, 2) := by decide +kernel
theorem dX0_play_93 : decode cX0_play 93 = .ok (.iload 8, 2) := by decide +kernel
theorem dX0_play_95 : decode cX0_play 95 = .ok (.ifCond .ne 19, 3) := by decide +kernel
theorem dX0_play_98 : decode cX0_play 98 = .ok (.aload_n 0, 1) := by decide +kernel
theorem dX0_play_99 : decode cX0_play 99 = .ok (.iload 7, 2) := by decide +kernel
theorem dX0_play_101 : decode cX0_play 101 = .ok (.putfield 9, 3) := by decide +kernel
theorem dX0_play_104 : decode cX0_play 104 = .ok (.aload_n 0, 1) := by decide +kernel
theorem dX0_play_105 : decode cX0_play 105 = .ok (.iload 5, 2) := by decide +kernel
theorem dX0_play_107 : decode cX0_play 107 = .ok (.invokestatic 39, 3) := by decide +kernel
theorem dX0_play_110 : decode cX0_play 110 = .ok (.putfield 15, 3) := by decide +kernel
theorem dX0_play_113 : decode cX0_play 113 = .ok (.return_, 1) := by decide +kernel
theorem dX0_play_114 : decode cX0_play 114 = .ok (.iload 8, 2) := by decide +kernel
theorem dX0_play_116 : decode cX0_play 116 = .ok (.istore 5, 2) := by decide +kernel
theorem dX0_play_118 : decode cX0_play 118 = .ok (.aload_n 0, 1) := by decide +kernel
theorem dX0_play_119 : decode cX0_play 119 = .ok (.iload 4, 2) := by decide +kernel
theorem dX0_play_121 : decode cX0_play 121 = .ok (.invokevirtual 42, 3) := by decide +kernel
theorem dX0_play_124 : decode cX0_play 124 = .ok (.istore 6, 2) := by decide +kernel
theorem dX0_play_126 : decode cX0_play 126 = .ok (.iinc 7 1, 3) := by decide +kernel
theorem dX0_play_129 : decode cX0_play 129 = .ok (.goto (-65), 3) := by decide +kernel
theorem dX0_play_132 : decode cX0_play 132 = .ok (.aload_n 0, 1) := by decide +kernel
theorem dX0_play_133 : decode cX0_play 133 = .ok (.iconst (-1), 1) := by decide +kernel
theorem dX0_play_134 : decode cX0_play 134 = .ok (.putfield 9, 3) := by decide +kernel
theorem dX0_play_137 : decode cX0_play 137 = .ok (.aload_n 0, 1) := by decide +kernel
theorem dX0_play_138 : decode cX0_play 138 = .ok (.iload 5, 2) := by decide +kernel
theorem dX0_play_140 : decode cX0_play 140 = .ok (.invokestatic 39, 3) := by decide +kernel
theorem dX0_play_143 : decode cX0_play 143 = .ok (.putfield 15, 3) := by decide +kernel
theorem dX0_play_146 : decode cX0_play 146 = .ok (.return_, 1) := by decide +kernel
theorem dX0_showersTurn_0 : decode cX0_showersTurn 0 = .ok (.iconst 0, 1) := by decide +kernel
theorem dX0_showersTurn_1 : decode cX0_showersTurn 1 = .ok (.istore_n 3, 1) := by decide +kernel
theorem dX0_showersTurn_2 : decode cX0_showersTurn 2 = .ok (.iload_n 3, 1) := by decide +kernel
theorem dX0_showersTurn_3 : decode cX0_showersTurn 3 = .ok (.bipush 30, 2) := by decide +kernel
theorem dX0_showersTurn_5 : decode cX0_showersTurn 5 = .ok (.if_icmp .ge 52, 3) := by decide +kernel
theorem dX0_showersTurn_8 : decode cX0_showersTurn 8 = .ok (.aload_n 0, 1) := by decide +kernel
theorem dX0_showersTurn_9 : decode cX0_showersTurn 9 = .ok (.getfield 18, 3) := by decide +kernel
theorem dX0_showersTurn_12 : decode cX0_showersTurn 12 = .ok (.iload_n 3, 1) := by decide +kernel
theorem dX0_showersTurn_13 : decode cX0_showersTurn 13 = .ok (.iaload, 1) := by decide +kernel
theorem dX0_showersTurn_14 : decode cX0_showersTurn 14 = .ok (.istore 4, 2) := by decide +kernel
theorem dX0_showersTurn_16 : decode cX0_showersTurn 16 = .ok (.iconst 0, 1) := by decide +kernel
theorem dX0_showersTurn_17 : decode cX0_showersTurn 17 = .ok (.istore 5, 2) := by decide +kernel
theorem dX0_showersTurn_19 : decode cX0_showersTurn 19 = .ok (.iload 5, 2) := by decide +kernel
theorem dX0_showersTurn_21 : decode cX0_showersTurn 21 = .ok (.iload_n 1, 1) := by decide +kernel
theorem dX0_showersTurn_22 : decode cX0_showersTurn 22 = .ok (.if_icmp .ge 21, 3) := by decide +kernel
theorem dX0_showersTurn_25 : decode cX0_showersTurn 25 = .ok (.iload 4, 2) := by decide +kernel
theorem dX0_showersTurn_27 : decode cX0_showersTurn 27 = .ok (.iload 4, 2) := by decide +kernel
theorem dX0_showersTurn_29 : decode cX0_showersTurn 29 = .ok (.invokestatic 25, 3) := by decide +kernel
theorem dX0_showersTurn_32 : decode cX0_showersTurn 32 = .ok (.iload_n 2, 1) := by decide +kernel
theorem dX0_showersTurn_33 : decode cX0_showersTurn 33 = .ok (.iand, 1) := by decide +kernel
theorem dX0_showersTurn_34 : decode cX0_showersTurn 34 = .ok (.ior, 1) := by decide +kernel
theorem dX0_showersTurn_35 : decode cX0_showersTurn 35 = .ok (.istore 4, 2) := by decide +kernel
theorem dX0_showersTurn_37 : decode cX0_showersTurn 37 = .ok (.iinc 5 1, 3) := by decide +kernel
theorem dX0_showersTurn_40 : decode cX0_showersTurn 40 = .ok (.goto (-21), 3) := by decide +kernel
theorem dX0_showersTurn_43 : decode cX0_showersTurn 43 = .ok (.aload_n 0, 1) := by decide +kernel
theorem dX0_showersTurn_44 : decode cX0_showersTurn 44 = .ok (.getfield 22, 3) := by decide +kernel
theorem dX0_showersTurn_47 : decode cX0_showersTurn 47 = .ok (.iload_n 3, 1) := by decide +kernel
theorem dX0_showersTurn_48 : decode cX0_showersTurn 48 = .ok (.iload 4, 2) := by decide +kernel
theorem dX0_showersTurn_50 : decode cX0_showersTurn 50 = .ok (.iastore, 1) := by decide +kernel
theorem dX0_showersTurn_51 : decode cX0_showersTurn 51 = .ok (.iinc 3 1, 3) := by decide +kernel
theorem dX0_showersTurn_54 : decode cX0_showersTurn 54 = .ok (.goto (-52), 3) := by decide +kernel
theorem dX0_showersTurn_57 : decode cX0_showersTurn 57 = .ok (.return_, 1) := by decide +kernel
theorem dX0_choicesWithout_0 : decode cX0_choicesWithout 0 = .ok (.iconst 0, 1) := by decide +kernel
theorem dX0_choicesWithout_1 : decode cX0_choicesWithout 1 = .ok (.istore_n 3, 1) := by decide +kernel
theorem dX0_choicesWithout_2 : decode cX0_choicesWithout 2 = .ok (.iconst 0, 1) := by decide +kernel
theorem dX0_choicesWithout_3 : decode cX0_choicesWithout 3 = .ok (.istore 4, 2) := by decide +kernel
theorem dX0_choicesWithout_5 : decode cX0_choicesWithout 5 = .ok (.iload 4, 2) := by decide +kernel
theorem dX0_choicesWithout_7 : decode cX0_choicesWithout 7 = .ok (.bipush 30, 2) := by decide +kernel
theorem dX0_choicesWithout_9 : decode cX0_choicesWithout 9 = .ok (.if_icmp .ge 39, 3) := by decide +kernel
theorem dX0_choicesWithout_12 : decode cX0_choicesWithout 12 = .ok (.iload_n 1, 1) := by decide +kernel
theorem dX0_choicesWithout_13 : decode cX0_choicesWithout 13 = .ok (.iload 4, 2) := by decide +kernel
theorem dX0_choicesWithout_15 : decode cX0_choicesWithout 15 = .ok (.invokestatic 46, 3) := by decide +kernel
theorem dX0_choicesWithout_18 : decode cX0_choicesWithout 18 = .ok (.ifCond .eq 24, 3) := by decide +kernel
theorem dX0_choicesWithout_21 : decode cX0_choicesWithout 21 = .ok (.aload_n 0, 1) := by decide +kernel
theorem dX0_choicesWithout_22 : decode cX0_choicesWithout 22 = .ok (.getfield 22, 3) := by decide +kernel
theorem dX0_choicesWithout_25 : decode cX0_choicesWithout 25 = .ok (.iload 4, 2) := by decide +kernel
theorem dX0_choicesWithout_27 : decode cX0_choicesWithout 27 = .ok (.iaload, 1) := by decide +kernel
theorem dX0_choicesWithout_28 : decode cX0_choicesWithout 28 = .ok (.iload_n 2, 1) := by decide +kernel
theorem dX0_choicesWithout_29 : decode cX0_choicesWithout 29 = .ok (.invokestatic 46, 3) := by decide +kernel
theorem dX0_choicesWithout_32 : decode cX0_choicesWithout 32 = .ok (.ifCond .ne 10, 3) := by decide +kernel
theorem dX0_choicesWithout_35 : decode cX0_choicesWithout 35 = .ok (.iload_n 3, 1) := by decide +kernel
theorem dX0_choicesWithout_36 : decode cX0_choicesWithout 36 = .ok (.iconst 1, 1) := by decide +kernel
theorem dX0_choicesWithout_37 : decode cX0_choicesWithout 37 = .ok (.iload 4, 2) := by decide +kernel
theorem dX0_choicesWithout_39 : decode cX0_choicesWithout 39 = .ok (.ishl, 1) := by decide +kernel
theorem dX0_choicesWithout_40 : decode cX0_choicesWithout 40 = .ok (.ior, 1) := by decide +kernel
theorem dX0_choicesWithout_41 : decode cX0_choicesWithout 41 = .ok (.istore_n 3, 1) := by decide +kernel
theorem dX0_choicesWithout_42 : decode cX0_choicesWithout 42 = .ok (.iinc 4 1, 3) := by decide +kernel
theorem dX0_choicesWithout_45 : decode cX0_choicesWithout 45 = .ok (.goto (-40), 3) := by decide +kernel
theorem dX0_choicesWithout_48 : decode cX0_choicesWithout 48 = .ok (.iload_n 3, 1) := by decide +kernel
theorem dX0_choicesWithout_49 : decode cX0_choicesWithout 49 = .ok (.ireturn, 1) := by decide +kernel
theorem dX0_fleersTurn_0 : decode cX0_fleersTurn 0 = .ok (.iconst 0, 1) := by decide +kernel
theorem dX0_fleersTurn_1 : decode cX0_fleersTurn 1 = .ok (.istore_n 2, 1) := by decide +kernel
theorem dX0_fleersTurn_2 : decode cX0_fleersTurn 2 = .ok (.iconst 0, 1) := by decide +kernel
theorem dX0_fleersTurn_3 : decode cX0_fleersTurn 3 = .ok (.istore_n 3, 1) := by decide +kernel
theorem dX0_fleersTurn_4 : decode cX0_fleersTurn 4 = .ok (.iload_n 3, 1) := by decide +kernel
theorem dX0_fleersTurn_5 : decode cX0_fleersTurn 5 = .ok (.bipush 30, 2) := by decide +kernel
theorem dX0_fleersTurn_7 : decode cX0_fleersTurn 7 = .ok (.if_icmp .ge 98, 3) := by decide +kernel
theorem dX0_fleersTurn_10 : decode cX0_fleersTurn 10 = .ok (.aload_n 0, 1) := by decide +kernel
theorem dX0_fleersTurn_11 : decode cX0_fleersTurn 11 = .ok (.getfield 22, 3) := by decide +kernel
theorem dX0_fleersTurn_14 : decode cX0_fleersTurn 14 = .ok (.iload_n 3, 1) := by decide +kernel
theorem dX0_fleersTurn_15 : decode cX0_fleersTurn 15 = .ok (.iaload, 1) := by decide +kernel
theorem dX0_fleersTurn_16 : decode cX0_fleersTurn 16 = .ok (.istore 4, 2) := by decide +kernel
theorem dX0_fleersTurn_18 : decode cX0_fleersTurn 18 = .ok (.iconst 0, 1) := by decide +kernel
theorem dX0_fleersTurn_19 : decode cX0_fleersTurn 19 = .ok (.istore 5, 2) := by decide +kernel
theorem dX0_fleersTurn_21 : decode cX0_fleersTurn 21 = .ok (.iload 5, 2) := by decide +kernel
theorem dX0_fleersTurn_23 : decode cX0_fleersTurn 23 = .ok (.iconst 4, 1) := by decide +kernel
theorem dX0_fleersTurn_24 : decode cX0_fleersTurn 24 = .ok (.if_icmp .ge 38, 3) := by decide +kernel
theorem dX0_fleersTurn_27 : decode cX0_fleersTurn 27 = .ok (.iload_n 3, 1) := by decide +kernel
theorem dX0_fleersTurn_28 : decode cX0_fleersTurn 28 = .ok (.iload 5, 2) := by decide +kernel
theorem dX0_fleersTurn_30 : decode cX0_fleersTurn 30 = .ok (.invokestatic 50, 3) := by decide +kernel
theorem dX0_fleersTurn_33 : decode cX0_fleersTurn 33 = .ok (.istore 6, 2) := by decide +kernel
theorem dX0_fleersTurn_35 : decode cX0_fleersTurn 35 = .ok (.iload_n 1, 1) := by decide +kernel
theorem dX0_fleersTurn_36 : decode cX0_fleersTurn 36 = .ok (.iload 6, 2) := by decide +kernel
theorem dX0_fleersTurn_38 : decode cX0_fleersTurn 38 = .ok (.invokestatic 46, 3) := by decide +kernel
theorem dX0_fleersTurn_41 : decode cX0_fleersTurn 41 = .ok (.ifCond .eq 15, 3) := by decide +kernel
theorem dX0_fleersTurn_44 : decode cX0_fleersTurn 44 = .ok (.iload 4, 2) := by decide +kernel
theorem dX0_fleersTurn_46 : decode cX0_fleersTurn 46 = .ok (.aload_n 0, 1) := by decide +kernel
theorem dX0_fleersTurn_47 : decode cX0_fleersTurn 47 = .ok (.getfield 22, 3) := by decide +kernel
theorem dX0_fleersTurn_50 : decode cX0_fleersTurn 50 = .ok (.iload 6, 2) := by decide +kernel
theorem dX0_fleersTurn_52 : decode cX0_fleersTurn 52 = .ok (.iaload, 1) := by decide +kernel
theorem dX0_fleersTurn_53 : decode cX0_fleersTurn 53 = .ok (.iand, 1) := by decide +kernel
theorem dX0_fleersTurn_54 : decode cX0_fleersTurn 54 = .ok (.istore 4, 2) := by decide +kernel
theorem dX0_fleersTurn_56 : decode cX0_fleersTurn 56 = .ok (.iinc 5 1, 3) := by decide +kernel
theorem dX0_fleersTurn_59 : decode cX0_fleersTurn 59 = .ok (.goto (-38), 3) := by decide +kernel
theorem dX0_fleersTurn_62 : decode cX0_fleersTurn 62 = .ok (.iload 4, 2) := by decide +kernel
theorem dX0_fleersTurn_64 : decode cX0_fleersTurn 64 = .ok (.iconst 1, 1) := by decide +kernel
theorem dX0_fleersTurn_65 : decode cX0_fleersTurn 65 = .ok (.iload_n 3, 1) := by decide +kernel
theorem dX0_fleersTurn_66 : decode cX0_fleersTurn 66 = .ok (.ishl, 1) := by decide +kernel
theorem dX0_fleersTurn_67 : decode cX0_fleersTurn 67 = .ok (.ior, 1) := by decide +kernel
theorem dX0_fleersTurn_68 : decode cX0_fleersTurn 68 = .ok (.istore 4, 2) := by decide +kernel
theorem dX0_fleersTurn_70 : decode cX0_fleersTurn 70 = .ok (.iload_n 1, 1) := by decide +kernel
theorem dX0_fleersTurn_71 : decode cX0_fleersTurn 71 = .ok (.iload_n 3, 1) := by decide +kernel
theorem dX0_fleersTurn_72 : decode cX0_fleersTurn 72 = .ok (.invokestatic 46, 3) := by decide +kernel
theorem dX0_fleersTurn_75 : decode cX0_fleersTurn 75 = .ok (.ifCond .eq 24, 3) := by decide +kernel
theorem dX0_fleersTurn_78 : decode cX0_fleersTurn 78 = .ok (.iload 4, 2) := by decide +kernel
theorem dX0_fleersTurn_80 : decode cX0_fleersTurn 80 = .ok (.aload_n 0, 1) := by decide +kernel
theorem dX0_fleersTurn_81 : decode cX0_fleersTurn 81 = .ok (.getfield 18, 3) := by decide +kernel
theorem dX0_fleersTurn_84 : decode cX0_fleersTurn 84 = .ok (.iload_n 3, 1) := by decide +kernel
theorem dX0_fleersTurn_85 : decode cX0_fleersTurn 85 = .ok (.iaload, 1) := by decide +kernel
theorem dX0_fleersTurn_86 : decode cX0_fleersTurn 86 = .ok (.if_icmp .eq 13, 3) := by decide +kernel
theorem dX0_fleersTurn_89 : decode cX0_fleersTurn 89 = .ok (.aload_n 0, 1) := by decide +kernel
theorem dX0_fleersTurn_90 : decode cX0_fleersTurn 90 = .ok (.getfield 18, 3) := by decide +kernel
theorem dX0_fleersTurn_93 : decode cX0_fleersTurn 93 = .ok (.iload_n 3, 1) := by decide +kernel
theorem dX0_fleersTurn_94 : decode cX0_fleersTurn 94 = .ok (.iload 4, 2) := by decide +kernel
theorem dX0_fleersTurn_96 : decode cX0_fleersTurn 96 = .ok (.iastore, 1) := by decide +kernel
theorem dX0_fleersTurn_97 : decode cX0_fleersTurn 97 = .ok (.iconst 1, 1) := by decide +kernel
theorem dX0_fleersTurn_98 : decode cX0_fleersTurn 98 = .ok (.istore_n 2, 1) := by decide +kernel
theorem dX0_fleersTurn_99 : decode cX0_fleersTurn 99 = .ok (.iinc 3 1, 3) := by decide +kernel
theorem dX0_fleersTurn_102 : decode cX0_fleersTurn 102 = .ok (.goto (-98), 3) := by decide +kernel
theorem dX0_fleersTurn_105 : decode cX0_fleersTurn 105 = .ok (.iload_n 2, 1) := by decide +kernel
theorem dX0_fleersTurn_106 : decode cX0_fleersTurn 106 = .ok (.ireturn, 1) := by decide +kernel
theorem dX1_beside_0 : decode cX1_beside 0 = .ok (.iload_n 0, 1) := by decide +kernel
theorem dX1_beside_1 : decode cX1_beside 1 = .ok (.bipush 6, 2) := by decide +kernel
theorem dX1_beside_3 : decode cX1_beside 3 = .ok (.iushr, 1) := by decide +kernel
theorem dX1_beside_4 : decode cX1_beside 4 = .ok (.iload_n 0, 1) := by decide +kernel
theorem dX1_beside_5 : decode cX1_beside 5 = .ok (.bipush 6, 2) := by decide +kernel
theorem dX1_beside_7 : decode cX1_beside 7 = .ok (.ishl, 1) := by decide +kernel
theorem dX1_beside_8 : decode cX1_beside 8 = .ok (.ldc 11, 2) := by decide +kernel
theorem dX1_beside_10 : decode cX1_beside 10 = .ok (.iand, 1) := by decide +kernel
theorem dX1_beside_11 : decode cX1_beside 11 = .ok (.ior, 1) := by decide +kernel
theorem dX1_beside_12 : decode cX1_beside 12 = .ok (.istore_n 1, 1) := by decide +kernel
theorem dX1_beside_13 : decode cX1_beside 13 = .ok (.iload_n 1, 1) := by decide +kernel
theorem dX1_beside_14 : decode cX1_beside 14 = .ok (.iload_n 0, 1) := by decide +kernel
theorem dX1_beside_15 : decode cX1_beside 15 = .ok (.ldc 12, 2) := by decide +kernel
theorem dX1_beside_17 : decode cX1_beside 17 = .ok (.iand, 1) := by decide +kernel
theorem dX1_beside_18 : decode cX1_beside 18 = .ok (.iconst 1, 1) := by decide +kernel
theorem dX1_beside_19 : decode cX1_beside 19 = .ok (.iushr, 1) := by decide +kernel
theorem dX1_beside_20 : decode cX1_beside 20 = .ok (.ior, 1) := by decide +kernel
theorem dX1_beside_21 : decode cX1_beside 21 = .ok (.iload_n 0, 1) := by decide +kernel
theorem dX1_beside_22 : decode cX1_beside 22 = .ok (.ldc 13, 2) := by decide +kernel
theorem dX1_beside_24 : decode cX1_beside 24 = .ok (.iand, 1) := by decide +kernel
theorem dX1_beside_25 : decode cX1_beside 25 = .ok (.iconst 1, 1) := by decide +kernel
theorem dX1_beside_26 : decode cX1_beside 26 = .ok (.ishl, 1) := by decide +kernel
theorem dX1_beside_27 : decode cX1_beside 27 = .ok (.ior, 1) := by decide +kernel
theorem dX1_beside_28 : decode cX1_beside 28 = .ok (.ireturn, 1) := by decide +kernel
theorem dX1_toSide_0 : decode cX1_toSide 0 = .ok (.iload_n 1, 1) := by decide +kernel
theorem dX1_toSide_1 : decode cX1_toSide 1 = .ok (.tableswitch 73 0 2 #[27, 42, 57], 27) := by decide +kernel
theorem dX1_toSide_28 : decode cX1_toSide 28 = .ok (.iload_n 0, 1) := by decide +kernel
theorem dX1_toSide_29 : decode cX1_toSide 29 = .ok (.bipush 6, 2) := by decide +kernel
theorem dX1_toSide_31 : decode cX1_toSide 31 = .ok (.if_icmp .lt 10, 3) := by decide +kernel
theorem dX1_toSide_34 : decode cX1_toSide 34 = .ok (.iload_n 0, 1) := by decide +kernel
theorem dX1_toSide_35 : decode cX1_toSide 35 = .ok (.bipush 6, 2) := by decide +kernel
theorem dX1_toSide_37 : decode cX1_toSide 37 = .ok (.isub, 1) := by decide +kernel
theorem dX1_toSide_38 : decode cX1_toSide 38 = .ok (.goto 4, 3) := by decide +kernel
theorem dX1_toSide_41 : decode cX1_toSide 41 = .ok (.iconst (-1), 1) := by decide +kernel
theorem dX1_toSide_42 : decode cX1_toSide 42 = .ok (.ireturn, 1) := by decide +kernel
theorem dX1_toSide_43 : decode cX1_toSide 43 = .ok (.iload_n 0, 1) := by decide +kernel
theorem dX1_toSide_44 : decode cX1_toSide 44 = .ok (.bipush 6, 2) := by decide +kernel
theorem dX1_toSide_46 : decode cX1_toSide 46 = .ok (.irem, 1) := by decide +kernel
theorem dX1_toSide_47 : decode cX1_toSide 47 = .ok (.ifCond .le 9, 3) := by decide +kernel
theorem dX1_toSide_50 : decode cX1_toSide 50 = .ok (.iload_n 0, 1) := by decide +kernel
theorem dX1_toSide_51 : decode cX1_toSide 51 = .ok (.iconst 1, 1) := by decide +kernel
theorem dX1_toSide_52 : decode cX1_toSide 52 = .ok (.isub, 1) := by decide +kernel
theorem dX1_toSide_53 : decode cX1_toSide 53 = .ok (.goto 4, 3) := by decide +kernel
theorem dX1_toSide_56 : decode cX1_toSide 56 = .ok (.iconst (-1), 1) := by decide +kernel
theorem dX1_toSide_57 : decode cX1_toSide 57 = .ok (.ireturn, 1) := by decide +kernel
theorem dX1_toSide_58 : decode cX1_toSide 58 = .ok (.iload_n 0, 1) := by decide +kernel
theorem dX1_toSide_59 : decode cX1_toSide 59 = .ok (.bipush 6, 2) := by decide +kernel
theorem dX1_toSide_61 : decode cX1_toSide 61 = .ok (.irem, 1) := by decide +kernel
theorem dX1_toSide_62 : decode cX1_toSide 62 = .ok (.iconst 5, 1) := by decide +kernel
theorem dX1_toSide_63 : decode cX1_toSide 63 = .ok (.if_icmp .ge 9, 3) := by decide +kernel
theorem dX1_toSide_66 : decode cX1_toSide 66 = .ok (.iload_n 0, 1) := by decide +kernel
theorem dX1_toSide_67 : decode cX1_toSide 67 = .ok (.iconst 1, 1) := by decide +kernel
theorem dX1_toSide_68 : decode cX1_toSide 68 = .ok (.iadd, 1) := by decide +kernel
theorem dX1_toSide_69 : decode cX1_toSide 69 = .ok (.goto 4, 3) := by decide +kernel
theorem dX1_toSide_72 : decode cX1_toSide 72 = .ok (.iconst (-1), 1) := by decide +kernel
theorem dX1_toSide_73 : decode cX1_toSide 73 = .ok (.ireturn, 1) := by decide +kernel
theorem dX1_toSide_74 : decode cX1_toSide 74 = .ok (.iload_n 0, 1) := by decide +kernel
theorem dX1_toSide_75 : decode cX1_toSide 75 = .ok (.bipush 24, 2) := by decide +kernel
theorem dX1_toSide_77 : decode cX1_toSide 77 = .ok (.if_icmp .ge 10, 3) := by decide +kernel
theorem dX1_toSide_80 : decode cX1_toSide 80 = .ok (.iload_n 0, 1) := by decide +kernel
theorem dX1_toSide_81 : decode cX1_toSide 81 = .ok (.bipush 6, 2) := by decide +kernel
theorem dX1_toSide_83 : decode cX1_toSide 83 = .ok (.iadd, 1) := by decide +kernel
theorem dX1_toSide_84 : decode cX1_toSide 84 = .ok (.goto 4, 3) := by decide +kernel
theorem dX1_toSide_87 : decode cX1_toSide 87 = .ok (.iconst (-1), 1) := by decide +kernel
theorem dX1_toSide_88 : decode cX1_toSide 88 = .ok (.ireturn, 1) := by decide +kernel
theorem dX1_lowest_0 : decode cX1_lowest 0 = .ok (.iload_n 0, 1) := by decide +kernel
theorem dX1_lowest_1 : decode cX1_lowest 1 = .ok (.ifCond .ne 7, 3) := by decide +kernel
theorem dX1_lowest_4 : decode cX1_lowest 4 = .ok (.iconst (-1), 1) := by decide +kernel
theorem dX1_lowest_5 : decode cX1_lowest 5 = .ok (.goto 12, 3) := by decide +kernel
theorem dX1_lowest_8 : decode cX1_lowest 8 = .ok (.iload_n 0, 1) := by decide +kernel
theorem dX1_lowest_9 : decode cX1_lowest 9 = .ok (.iload_n 0, 1) := by decide +kernel
theorem dX1_lowest_10 : decode cX1_lowest 10 = .ok (.ineg, 1) := by decide +kernel
theorem dX1_lowest_11 : decode cX1_lowest 11 = .ok (.iand, 1) := by decide +kernel
theorem dX1_lowest_12 : decode cX1_lowest 12 = .ok (.iconst 1, 1) := by decide +kernel
theorem dX1_lowest_13 : decode cX1_lowest 13 = .ok (.isub, 1) := by decide +kernel
theorem dX1_lowest_14 : decode cX1_lowest 14 = .ok (.invokestatic 14, 3) := by decide +kernel
theorem dX1_lowest_17 : decode cX1_lowest 17 = .ok (.ireturn, 1) := by decide +kernel
theorem dX1_has_0 : decode cX1_has 0 = .ok (.iload_n 1, 1) := by decide +kernel
theorem dX1_has_1 : decode cX1_has 1 = .ok (.ifCond .lt 21, 3) := by decide +kernel
theorem dX1_has_4 : decode cX1_has 4 = .ok (.iload_n 1, 1) := by decide +kernel
theorem dX1_has_5 : decode cX1_has 5 = .ok (.bipush 30, 2) := by decide +kernel
theorem dX1_has_7 : decode cX1_has 7 = .ok (.if_icmp .ge 15, 3) := by decide +kernel
theorem dX1_has_10 : decode cX1_has 10 = .ok (.iload_n 0, 1) := by decide +kernel
theorem dX1_has_11 : decode cX1_has 11 = .ok (.iload_n 1, 1) := by decide +kernel
theorem dX1_has_12 : decode cX1_has 12 = .ok (.iushr, 1) := by decide +kernel
theorem dX1_has_13 : decode cX1_has 13 = .ok (.iconst 1, 1) := by decide +kernel
theorem dX1_has_14 : decode cX1_has 14 = .ok (.iand, 1) := by decide +kernel
theorem dX1_has_15 : decode cX1_has 15 = .ok (.ifCond .eq 7, 3) := by decide +kernel
theorem dX1_has_18 : decode cX1_has 18 = .ok (.iconst 1, 1) := by decide +kernel
theorem dX1_has_19 : decode cX1_has 19 = .ok (.goto 4, 3) := by decide +kernel
theorem dX1_has_22 : decode cX1_has 22 = .ok (.iconst 0, 1) := by decide +kernel
theorem dX1_has_23 : decode cX1_has 23 = .ok (.ireturn, 1) := by decide +kernel
theorem dX1_stepsBetween_0 : decode cX1_stepsBetween 0 = .ok (.iload_n 2, 1) := by decide +kernel
theorem dX1_stepsBetween_1 : decode cX1_stepsBetween 1 = .ok (.iload_n 0, 1) := by decide +kernel
theorem dX1_stepsBetween_2 : decode cX1_stepsBetween 2 = .ok (.invokestatic 20, 3) := by decide +kernel
theorem dX1_stepsBetween_5 : decode cX1_stepsBetween 5 = .ok (.ifCond .eq 11, 3) := by decide +kernel
theorem dX1_stepsBetween_8 : decode cX1_stepsBetween 8 = .ok (.iload_n 2, 1) := by decide +kernel
theorem dX1_stepsBetween_9 : decode cX1_stepsBetween 9 = .ok (.iload_n 1, 1) := by decide +kernel
theorem dX1_stepsBetween_10 : decode cX1_stepsBetween 10 = .ok (.invokestatic 20, 3) := by decide +kernel
theorem dX1_stepsBetween_13 : decode cX1_stepsBetween 13 = .ok (.ifCond .ne 5, 3) := by decide +kernel
theorem dX1_stepsBetween_16 : decode cX1_stepsBetween 16 = .ok (.iconst (-1), 1) := by decide +kernel
theorem dX1_stepsBetween_17 : decode cX1_stepsBetween 17 = .ok (.ireturn, 1) := by decide +kernel
theorem dX1_stepsBetween_18 : decode cX1_stepsBetween 18 = .ok (.iconst 1, 1) := by decide +kernel
theorem dX1_stepsBetween_19 : decode cX1_stepsBetween 19 = .ok (.iload_n 0, 1) := by decide +kernel
theorem dX1_stepsBetween_20 : decode cX1_stepsBetween 20 = .ok (.ishl, 1) := by decide +kernel
theorem dX1_stepsBetween_21 : decode cX1_stepsBetween 21 = .ok (.istore_n 3, 1) := by decide +kernel
theorem dX1_stepsBetween_22 : decode cX1_stepsBetween 22 = .ok (.iconst 0, 1) := by decide +kernel
theorem dX1_stepsBetween_23 : decode cX1_stepsBetween 23 = .ok (.istore 4, 2) := by decide +kernel
theorem dX1_stepsBetween_25 : decode cX1_stepsBetween 25 = .ok (.iload 4, 2) := by decide +kernel
theorem dX1_stepsBetween_27 : decode cX1_stepsBetween 27 = .ok (.bipush 30, 2) := by decide +kernel
theorem dX1_stepsBetween_29 : decode cX1_stepsBetween 29 = .ok (.if_icmp .ge 29, 3) := by decide +kernel
theorem dX1_stepsBetween_32 : decode cX1_stepsBetween 32 = .ok (.iload_n 3, 1) := by decide +kernel
theorem dX1_stepsBetween_33 : decode cX1_stepsBetween 33 = .ok (.iload_n 1, 1) := by decide +kernel
theorem dX1_stepsBetween_34 : decode cX1_stepsBetween 34 = .ok (.iushr, 1) := by decide +kernel
theorem dX1_stepsBetween_35 : decode cX1_stepsBetween 35 = .ok (.iconst 1, 1) := by decide +kernel
theorem dX1_stepsBetween_36 : decode cX1_stepsBetween 36 = .ok (.iand, 1) := by decide +kernel
theorem dX1_stepsBetween_37 : decode cX1_stepsBetween 37 = .ok (.ifCond .eq 6, 3) := by decide +kernel
theorem dX1_stepsBetween_40 : decode cX1_stepsBetween 40 = .ok (.iload 4, 2) := by decide +kernel
theorem dX1_stepsBetween_42 : decode cX1_stepsBetween 42 = .ok (.ireturn, 1) := by decide +kernel
theorem dX1_stepsBetween_43 : decode cX1_stepsBetween 43 = .ok (.iload_n 3, 1) := by decide +kernel
theorem dX1_stepsBetween_44 : decode cX1_stepsBetween 44 = .ok (.iload_n 3, 1) := by decide +kernel
theorem dX1_stepsBetween_45 : decode cX1_stepsBetween 45 = .ok (.invokestatic 24, 3) := by decide +kernel
theorem dX1_stepsBetween_48 : decode cX1_stepsBetween 48 = .ok (.iload_n 2, 1) := by decide +kernel
theorem dX1_stepsBetween_49 : decode cX1_stepsBetween 49 = .ok (.iand, 1) := by decide +kernel
theorem dX1_stepsBetween_50 : decode cX1_stepsBetween 50 = .ok (.ior, 1) := by decide +kernel
theorem dX1_stepsBetween_51 : decode cX1_stepsBetween 51 = .ok (.istore_n 3, 1) := by decide +kernel
theorem dX1_stepsBetween_52 : decode cX1_stepsBetween 52 = .ok (.iinc 4 1, 3) := by decide +kernel
theorem dX1_stepsBetween_55 : decode cX1_stepsBetween 55 = .ok (.goto (-30), 3) := by decide +kernel
theorem dX1_stepsBetween_58 : decode cX1_stepsBetween 58 = .ok (.iconst (-1), 1) := by decide +kernel
theorem dX1_stepsBetween_59 : decode cX1_stepsBetween 59 = .ok (.ireturn, 1) := by decide +kernel
theorem dX1_nextOn_0 : decode cX1_nextOn 0 = .ok (.iload_n 2, 1) := by decide +kernel
theorem dX1_nextOn_1 : decode cX1_nextOn 1 = .ok (.iload_n 0, 1) := by decide +kernel
theorem dX1_nextOn_2 : decode cX1_nextOn 2 = .ok (.invokestatic 20, 3) := by decide +kernel
theorem dX1_nextOn_5 : decode cX1_nextOn 5 = .ok (.ifCond .eq 11, 3) := by decide +kernel
theorem dX1_nextOn_8 : decode cX1_nextOn 8 = .ok (.iload_n 2, 1) := by decide +kernel
theorem dX1_nextOn_9 : decode cX1_nextOn 9 = .ok (.iload_n 1, 1) := by decide +kernel
theorem dX1_nextOn_10 : decode cX1_nextOn 10 = .ok (.invokestatic 20, 3) := by decide +kernel
theorem dX1_nextOn_13 : decode cX1_nextOn 13 = .ok (.ifCond .ne 5, 3) := by decide +kernel
theorem dX1_nextOn_16 : decode cX1_nextOn 16 = .ok (.iconst (-1), 1) := by decide +kernel
theorem dX1_nextOn_17 : decode cX1_nextOn 17 = .ok (.ireturn, 1) := by decide +kernel
theorem dX1_nextOn_18 : decode cX1_nextOn 18 = .ok (.iconst 1, 1) := by decide +kernel
theorem dX1_nextOn_19 : decode cX1_nextOn 19 = .ok (.iload_n 0, 1) := by decide +kernel
theorem dX1_nextOn_20 : decode cX1_nextOn 20 = .ok (.ishl, 1) := by decide +kernel
theorem dX1_nextOn_21 : decode cX1_nextOn 21 = .ok (.invokestatic 24, 3) := by decide +kernel
theorem dX1_nextOn_24 : decode cX1_nextOn 24 = .ok (.iload_n 2, 1) := by decide +kernel
theorem dX1_nextOn_25 : decode cX1_nextOn 25 = .ok (.iand, 1) := by decide +kernel
theorem dX1_nextOn_26 : decode cX1_nextOn 26 = .ok (.istore_n 3, 1) := by decide +kernel
theorem dX1_nextOn_27 : decode cX1_nextOn 27 = .ok (.iconst 1, 1) := by decide +kernel
theorem dX1_nextOn_28 : decode cX1_nextOn 28 = .ok (.iload_n 1, 1) := by decide +kernel
theorem dX1_nextOn_29 : decode cX1_nextOn 29 = .ok (.ishl, 1) := by decide +kernel
theorem dX1_nextOn_30 : decode cX1_nextOn 30 = .ok (.istore 4, 2) := by decide +kernel
theorem dX1_nextOn_32 : decode cX1_nextOn 32 = .ok (.iconst 0, 1) := by decide +kernel
theorem dX1_nextOn_33 : decode cX1_nextOn 33 = .ok (.istore 5, 2) := by decide +kernel
theorem dX1_nextOn_35 : decode cX1_nextOn 35 = .ok (.iload 5, 2) := by decide +kernel
theorem dX1_nextOn_37 : decode cX1_nextOn 37 = .ok (.bipush 30, 2) := by decide +kernel
theorem dX1_nextOn_39 : decode cX1_nextOn 39 = .ok (.if_icmp .ge 28, 3) := by decide +kernel
theorem dX1_nextOn_42 : decode cX1_nextOn 42 = .ok (.iload 4, 2) := by decide +kernel
theorem dX1_nextOn_44 : decode cX1_nextOn 44 = .ok (.iload_n 3, 1) := by decide +kernel
theorem dX1_nextOn_45 : decode cX1_nextOn 45 = .ok (.iand, 1) := by decide +kernel
theorem dX1_nextOn_46 : decode cX1_nextOn 46 = .ok (.ifCond .ne 21, 3) := by decide +kernel
theorem dX1_nextOn_49 : decode cX1_nextOn 49 = .ok (.iload 4, 2) := by decide +kernel
theorem dX1_nextOn_51 : decode cX1_nextOn 51 = .ok (.iload 4, 2) := by decide +kernel
theorem dX1_nextOn_53 : decode cX1_nextOn 53 = .ok (.invokestatic 24, 3) := by decide +kernel
theorem dX1_nextOn_56 : decode cX1_nextOn 56 = .ok (.iload_n 2, 1) := by decide +kernel
theorem dX1_nextOn_57 : decode cX1_nextOn 57 = .ok (.iand, 1) := by decide +kernel
theorem dX1_nextOn_58 : decode cX1_nextOn 58 = .ok (.ior, 1) := by decide +kernel
theorem dX1_nextOn_59 : decode cX1_nextOn 59 = .ok (.istore 4, 2) := by decide +kernel
theorem dX1_nextOn_61 : decode cX1_nextOn 61 = .ok (.iinc 5 1, 3) := by decide +kernel
theorem dX1_nextOn_64 : decode cX1_nextOn 64 = .ok (.goto (-29), 3) := by decide +kernel
theorem dX1_nextOn_67 : decode cX1_nextOn 67 = .ok (.iload 4, 2) := by decide +kernel
theorem dX1_nextOn_69 : decode cX1_nextOn 69 = .ok (.iload_n 3, 1) := by decide +kernel
theorem dX1_nextOn_70 : decode cX1_nextOn 70 = .ok (.iand, 1) := by decide +kernel
theorem dX1_nextOn_71 : decode cX1_nextOn 71 = .ok (.invokestatic 27, 3) := by decide +kernel
theorem dX1_nextOn_74 : decode cX1_nextOn 74 = .ok (.ireturn, 1) := by decide +kernel
theorem dX1_filled_0 : decode cX1_filled 0 = .ok (.iload_n 0, 1) := by decide +kernel
theorem dX1_filled_1 : decode cX1_filled 1 = .ok (.istore_n 2, 1) := by decide +kernel
theorem dX1_filled_2 : decode cX1_filled 2 = .ok (.iconst 0, 1) := by decide +kernel
theorem dX1_filled_3 : decode cX1_filled 3 = .ok (.istore_n 3, 1) := by decide +kernel
theorem dX1_filled_4 : decode cX1_filled 4 = .ok (.iload_n 3, 1) := by decide +kernel
theorem dX1_filled_5 : decode cX1_filled 5 = .ok (.bipush 30, 2) := by decide +kernel
theorem dX1_filled_7 : decode cX1_filled 7 = .ok (.if_icmp .ge 30, 3) := by decide +kernel
theorem dX1_filled_10 : decode cX1_filled 10 = .ok (.iload_n 2, 1) := by decide +kernel
theorem dX1_filled_11 : decode cX1_filled 11 = .ok (.iload_n 2, 1) := by decide +kernel
theorem dX1_filled_12 : decode cX1_filled 12 = .ok (.invokestatic 24, 3) := by decide +kernel
theorem dX1_filled_15 : decode cX1_filled 15 = .ok (.iload_n 1, 1) := by decide +kernel
theorem dX1_filled_16 : decode cX1_filled 16 = .ok (.iand, 1) := by decide +kernel
theorem dX1_filled_17 : decode cX1_filled 17 = .ok (.ior, 1) := by decide +kernel
theorem dX1_filled_18 : decode cX1_filled 18 = .ok (.istore 4, 2) := by decide +kernel
theorem dX1_filled_20 : decode cX1_filled 20 = .ok (.iload 4, 2) := by decide +kernel
theorem dX1_filled_22 : decode cX1_filled 22 = .ok (.iload_n 2, 1) := by decide +kernel
theorem dX1_filled_23 : decode cX1_filled 23 = .ok (.if_icmp .ne 5, 3) := by decide +kernel
theorem dX1_filled_26 : decode cX1_filled 26 = .ok (.iload_n 2, 1) := by decide +kernel
theorem dX1_filled_27 : decode cX1_filled 27 = .ok (.ireturn, 1) := by decide +kernel
theorem dX1_filled_28 : decode cX1_filled 28 = .ok (.iload 4, 2) := by decide +kernel
theorem dX1_filled_30 : decode cX1_filled 30 = .ok (.istore_n 2, 1) := by decide +kernel
theorem dX1_filled_31 : decode cX1_filled 31 = .ok (.iinc 3 1, 3) := by decide +kernel
theorem dX1_filled_34 : decode cX1_filled 34 = .ok (.goto (-30), 3) := by decide +kernel
theorem dX1_filled_37 : decode cX1_filled 37 = .ok (.iload_n 2, 1) := by decide +kernel
theorem dX1_filled_38 : decode cX1_filled 38 = .ok (.ireturn, 1) := by decide +kernel
theorem dX2_init_0 : decode cX2_init 0 = .ok (.aload_n 0, 1) := by decide +kernel
theorem dX2_init_1 : decode cX2_init 1 = .ok (.invokespecial 3, 3) := by decide +kernel
theorem dX2_init_4 : decode cX2_init 4 = .ok (.aload_n 0, 1) := by decide +kernel
theorem dX2_init_5 : decode cX2_init 5 = .ok (.bipush 64, 2) := by decide +kernel
theorem dX2_init_7 : decode cX2_init 7 = .ok (.newarray .int, 2) := by decide +kernel
theorem dX2_init_9 : decode cX2_init 9 = .ok (.putfield 9, 3) := by decide +kernel
theorem dX2_init_12 : decode cX2_init 12 = .ok (.return_, 1) := by decide +kernel
theorem dX2_says_0 : decode cX2_says 0 = .ok (.iconst 0, 1) := by decide +kernel
theorem dX2_says_1 : decode cX2_says 1 = .ok (.istore 6, 2) := by decide +kernel
theorem dX2_says_3 : decode cX2_says 3 = .ok (.iload_n 2, 1) := by decide +kernel
theorem dX2_says_4 : decode cX2_says 4 = .ok (.istore 7, 2) := by decide +kernel
theorem dX2_says_6 : decode cX2_says 6 = .ok (.iload 7, 2) := by decide +kernel
theorem dX2_says_8 : decode cX2_says 8 = .ok (.ifCond .lt 371, 3) := by decide +kernel
theorem dX2_says_11 : decode cX2_says 11 = .ok (.iload 7, 2) := by decide +kernel
theorem dX2_says_13 : decode cX2_says 13 = .ok (.aload_n 1, 1) := by decide +kernel
theorem dX2_says_14 : decode cX2_says 14 = .ok (.getfield 15, 3) := by decide +kernel
theorem dX2_says_17 : decode cX2_says 17 = .ok (.if_icmp .ge 362, 3) := by decide +kernel
theorem dX2_says_20 : decode cX2_says 20 = .ok (.iload 6, 2) := by decide +kernel
theorem dX2_says_22 : decode cX2_says 22 = .ok (.iconst 1, 1) := by decide +kernel
theorem dX2_says_23 : decode cX2_says 23 = .ok (.iadd, 1) := by decide +kernel
theorem dX2_says_24 : decode cX2_says 24 = .ok (.aload_n 0, 1) := by decide +kernel
theorem dX2_says_25 : decode cX2_says 25 = .ok (.getfield 9, 3) := by decide +kernel
theorem dX2_says_28 : decode cX2_says 28 = .ok (.arraylength, 1) := by decide +kernel
theorem dX2_says_29 : decode cX2_says 29 = .ok (.if_icmp .ge 350, 3) := by decide +kernel
theorem dX2_says_32 : decode cX2_says 32 = .ok (.aload_n 1, 1) := by decide +kernel
theorem dX2_says_33 : decode cX2_says 33 = .ok (.getfield 21, 3) := by decide +kernel
theorem dX2_says_36 : decode cX2_says 36 = .ok (.iload 7, 2) := by decide +kernel
theorem dX2_says_38 : decode cX2_says 38 = .ok (.iaload, 1) := by decide +kernel
theorem dX2_says_39 : decode cX2_says 39 = .ok (.bipush 64, 2) := by decide +kernel
theorem dX2_says_41 : decode cX2_says 41 = .ok (.irem, 1) := by decide +kernel
theorem dX2_says_42 : decode cX2_says 42 = .ok (.istore 8, 2) := by decide +kernel
theorem dX2_says_44 : decode cX2_says 44 = .ok (.aload_n 1, 1) := by decide +kernel
theorem dX2_says_45 : decode cX2_says 45 = .ok (.getfield 21, 3) := by decide +kernel
theorem dX2_says_48 : decode cX2_says 48 = .ok (.iload 7, 2) := by decide +kernel
theorem dX2_says_50 : decode cX2_says 50 = .ok (.iaload, 1) := by decide +kernel
theorem dX2_says_51 : decode cX2_says 51 = .ok (.bipush 64, 2) := by decide +kernel
theorem dX2_says_53 : decode cX2_says 53 = .ok (.idiv, 1) := by decide +kernel
theorem dX2_says_54 : decode cX2_says 54 = .ok (.istore 9, 2) := by decide +kernel
theorem dX2_says_56 : decode cX2_says 56 = .ok (.iload 8, 2) := by decide +kernel
theorem dX2_says_58 : decode cX2_says 58 = .ok (.bipush 48, 2) := by decide +kernel
theorem dX2_says_60 : decode cX2_says 60 = .ok (.if_icmp .ne 6, 3) := by decide +kernel
theorem dX2_says_63 : decode cX2_says 63 = .ok (.goto 316, 3) := by decide +kernel
theorem dX2_says_66 : decode cX2_says 66 = .ok (.iload 8, 2) := by decide +kernel
theorem dX2_says_68 : decode cX2_says 68 = .ok (.bipush 41, 2) := by decide +kernel
theorem dX2_says_70 : decode cX2_says 70 = .ok (.if_icmp .ne 18, 3) := by decide +kernel
theorem dX2_says_73 : decode cX2_says 73 = .ok (.aload_n 0, 1) := by decide +kernel
theorem dX2_says_74 : decode cX2_says 74 = .ok (.getfield 9, 3) := by decide +kernel
theorem dX2_says_77 : decode cX2_says 77 = .ok (.iload 6, 2) := by decide +kernel
theorem dX2_says_79 : decode cX2_says 79 = .ok (.iload 9, 2) := by decide +kernel
theorem dX2_says_81 : decode cX2_says 81 = .ok (.iastore, 1) := by decide +kernel
theorem dX2_says_82 : decode cX2_says 82 = .ok (.iinc 6 1, 3) := by decide +kernel
theorem dX2_says_85 : decode cX2_says 85 = .ok (.goto 288, 3) := by decide +kernel
theorem dX2_says_88 : decode cX2_says 88 = .ok (.iload 8, 2) := by decide +kernel
theorem dX2_says_90 : decode cX2_says 90 = .ok (.invokestatic 26, 3) := by decide +kernel
theorem dX2_says_93 : decode cX2_says 93 = .ok (.ifCond .eq 36, 3) := by decide +kernel
theorem dX2_says_96 : decode cX2_says 96 = .ok (.aload_n 0, 1) := by decide +kernel
theorem dX2_says_97 : decode cX2_says 97 = .ok (.getfield 9, 3) := by decide +kernel
theorem dX2_says_100 : decode cX2_says 100 = .ok (.iload 6, 2) := by decide +kernel
theorem dX2_says_102 : decode cX2_says 102 = .ok (.iload 8, 2) := by decide +kernel
theorem dX2_says_104 : decode cX2_says 104 = .ok (.bipush 16, 2) := by decide +kernel
theorem dX2_says_106 : decode cX2_says 106 = .ok (.if_icmp .ne 8, 3) := by decide +kernel
theorem dX2_says_109 : decode cX2_says 109 = .ok (.iload 5, 2) := by decide +kernel
theorem dX2_says_111 : decode cX2_says 111 = .ok (.goto 11, 3) := by decide +kernel
theorem dX2_says_114 : decode cX2_says 114 = .ok (.iload 8, 2) := by decide +kernel
theorem dX2_says_116 : decode cX2_says 116 = .ok (.aload_n 3, 1) := by decide +kernel
theorem dX2_says_117 : decode cX2_says 117 = .ok (.iload 4, 2) := by decide +kernel
theorem dX2_says_119 : decode cX2_says 119 = .ok (.invokestatic 30, 3) := by decide +kernel
theorem dX2_says_122 : decode cX2_says 122 = .ok (.iastore, 1) := by decide +kernel
theorem dX2_says_123 : decode cX2_says 123 = .ok (.iinc 6 1, 3) := by decide +kernel
theorem dX2_says_126 : decode cX2_says 126 = .ok (.goto 247, 3) := by decide +kernel
theorem dX2_says_129 : decode cX2_says 129 = .ok (.iload 8, 2) := by decide +kernel
theorem dX2_says_131 : decode cX2_says 131 = .ok (.bipush 46, 2) := by decide +kernel
theorem dX2_says_133 : decode cX2_says 133 = .ok (.if_icmp .ne 17, 3) := by decide +kernel
theorem dX2_says_136 : decode cX2_says 136 = .ok (.iload 7, 2) := by decide +kernel
theorem dX2_says_138 : decode cX2_says 138 = .ok (.iload 9, 2) := by decide +kernel
theorem dX2_says_140 : decode cX2_says 140 = .ok (.iconst 1, 1) := by decide +kernel
theorem dX2_says_141 : decode cX2_says 141 = .ok (.isub, 1) := by decide +kernel
theorem dX2_says_142 : decode cX2_says 142 = .ok (.invokestatic 34, 3) := by decide +kernel
theorem dX2_says_145 : decode cX2_says 145 = .ok (.istore 7, 2) := by decide +kernel
theorem dX2_says_147 : decode cX2_says 147 = .ok (.goto 226, 3) := by decide +kernel
theorem dX2_says_150 : decode cX2_says 150 = .ok (.iload 8, 2) := by decide +kernel
theorem dX2_says_152 : decode cX2_says 152 = .ok (.bipush 47, 2) := by decide +kernel
theorem dX2_says_154 : decode cX2_says 154 = .ok (.if_icmp .ne 40, 3) := by decide +kernel
theorem dX2_says_157 : decode cX2_says 157 = .ok (.iload 6, 2) := by decide +kernel
theorem dX2_says_159 : decode cX2_says 159 = .ok (.ifCond .le 35, 3) := by decide +kernel
theorem dX2_says_162 : decode cX2_says 162 = .ok (.iinc 6 (-1), 3) := by decide +kernel
theorem dX2_says_165 : decode cX2_says 165 = .ok (.aload_n 0, 1) := by decide +kernel
theorem dX2_says_166 : decode cX2_says 166 = .ok (.getfield 9, 3) := by decide +kernel
theorem dX2_says_169 : decode cX2_says 169 = .ok (.iload 6, 2) := by decide +kernel
theorem dX2_says_171 : decode cX2_says 171 = .ok (.iaload, 1) := by decide +kernel
theorem dX2_says_172 : decode cX2_says 172 = .ok (.ifCond .ne 15, 3) := by decide +kernel
theorem dX2_says_175 : decode cX2_says 175 = .ok (.iload 7, 2) := by decide +kernel
theorem dX2_says_177 : decode cX2_says 177 = .ok (.iload 9, 2) := by decide +kernel
theorem dX2_says_179 : decode cX2_says 179 = .ok (.iconst 1, 1) := by decide +kernel
theorem dX2_says_180 : decode cX2_says 180 = .ok (.isub, 1) := by decide +kernel
theorem dX2_says_181 : decode cX2_says 181 = .ok (.invokestatic 34, 3) := by decide +kernel
theorem dX2_says_184 : decode cX2_says 184 = .ok (.goto 5, 3) := by decide +kernel
theorem dX2_says_187 : decode cX2_says 187 = .ok (.iload 7, 2) := by decide +kernel
theorem dX2_says_189 : decode cX2_says 189 = .ok (.istore 7, 2) := by decide +kernel
theorem dX2_says_191 : decode cX2_says 191 = .ok (.goto 182, 3) := by decide +kernel
theorem dX2_says_194 : decode cX2_says 194 = .ok (.iload 8, 2) := by decide +kernel
theorem dX2_says_196 : decode cX2_says 196 = .ok (.bipush 45, 2) := by decide +kernel
theorem dX2_says_198 : decode cX2_says 198 = .ok (.if_icmp .ne 30, 3) := by decide +kernel
theorem dX2_says_201 : decode cX2_says 201 = .ok (.iload 6, 2) := by decide +kernel
theorem dX2_says_203 : decode cX2_says 203 = .ok (.ifCond .le 25, 3) := by decide +kernel
theorem dX2_says_206 : decode cX2_says 206 = .ok (.aload_n 0, 1) := by decide +kernel
theorem dX2_says_207 : decode cX2_says 207 = .ok (.getfield 9, 3) := by decide +kernel
theorem dX2_says_210 : decode cX2_says 210 = .ok (.iload 6, 2) := by decide +kernel
theorem dX2_says_212 : decode cX2_says 212 = .ok (.iconst 1, 1) := by decide +kernel
theorem dX2_says_213 : decode cX2_says 213 = .ok (.isub, 1) := by decide +kernel
theorem dX2_says_214 : decode cX2_says 214 = .ok (.aload_n 0, 1) := by decide +kernel
theorem dX2_says_215 : decode cX2_says 215 = .ok (.getfield 9, 3) := by decide +kernel
theorem dX2_says_218 : decode cX2_says 218 = .ok (.iload 6, 2) := by decide +kernel
theorem dX2_says_220 : decode cX2_says 220 = .ok (.iconst 1, 1) := by decide +kernel
theorem dX2_says_221 : decode cX2_says 221 = .ok (.isub, 1) := by decide +kernel
theorem dX2_says_222 : decode cX2_says 222 = .ok (.iaload, 1) := by decide +kernel
theorem dX2_says_223 : decode cX2_says 223 = .ok (.ineg, 1) := by decide +kernel
theorem dX2_says_224 : decode cX2_says 224 = .ok (.iastore, 1) := by decide +kernel
theorem dX2_says_225 : decode cX2_says 225 = .ok (.goto 148, 3) := by decide +kernel
theorem dX2_says_228 : decode cX2_says 228 = .ok (.iload 8, 2) := by decide +kernel
theorem dX2_says_230 : decode cX2_says 230 = .ok (.bipush 20, 2) := by decide +kernel
theorem dX2_says_232 : decode cX2_says 232 = .ok (.if_icmp .ne 31, 3) := by decide +kernel
theorem dX2_says_235 : decode cX2_says 235 = .ok (.iload 6, 2) := by decide +kernel
theorem dX2_says_237 : decode cX2_says 237 = .ok (.ifCond .le 26, 3) := by decide +kernel
theorem dX2_says_240 : decode cX2_says 240 = .ok (.aload_n 0, 1) := by decide +kernel
theorem dX2_says_241 : decode cX2_says 241 = .ok (.getfield 9, 3) := by decide +kernel
theorem dX2_says_244 : decode cX2_says 244 = .ok (.iload 6, 2) := by decide +kernel
theorem dX2_says_246 : decode cX2_says 246 = .ok (.iconst 1, 1) := by decide +kernel
theorem dX2_says_247 : decode cX2_says 247 = .ok (.isub, 1) := by decide +kernel
theorem dX2_says_248 : decode cX2_says 248 = .ok (.iconst 1, 1) := by decide +kernel
theorem dX2_says_249 : decode cX2_says 249 = .ok (.aload_n 0, 1) := by decide +kernel
theorem dX2_says_250 : decode cX2_says 250 = .ok (.getfield 9, 3) := by decide +kernel
theorem dX2_says_253 : decode cX2_says 253 = .ok (.iload 6, 2) := by decide +kernel
theorem dX2_says_255 : decode cX2_says 255 = .ok (.iconst 1, 1) := by decide +kernel
theorem dX2_says_256 : decode cX2_says 256 = .ok (.isub, 1) := by decide +kernel
theorem dX2_says_257 : decode cX2_says 257 = .ok (.iaload, 1) := by decide +kernel
theorem dX2_says_258 : decode cX2_says 258 = .ok (.isub, 1) := by decide +kernel
theorem dX2_says_259 : decode cX2_says 259 = .ok (.iastore, 1) := by decide +kernel
theorem dX2_says_260 : decode cX2_says 260 = .ok (.goto 113, 3) := by decide +kernel
theorem dX2_says_263 : decode cX2_says 263 = .ok (.iload 8, 2) := by decide +kernel
theorem dX2_says_265 : decode cX2_says 265 = .ok (.bipush 18, 2) := by decide +kernel
theorem dX2_says_267 : decode cX2_says 267 = .ok (.if_icmp .ne 50, 3) := by decide +kernel
theorem dX2_says_270 : decode cX2_says 270 = .ok (.iload 6, 2) := by decide +kernel
theorem dX2_says_272 : decode cX2_says 272 = .ok (.ifCond .le 45, 3) := by decide +kernel
theorem dX2_says_275 : decode cX2_says 275 = .ok (.aload_n 0, 1) := by decide +kernel
theorem dX2_says_276 : decode cX2_says 276 = .ok (.getfield 9, 3) := by decide +kernel
theorem dX2_says_279 : decode cX2_says 279 = .ok (.iload 6, 2) := by decide +kernel
theorem dX2_says_281 : decode cX2_says 281 = .ok (.iconst 1, 1) := by decide +kernel
theorem dX2_says_282 : decode cX2_says 282 = .ok (.isub, 1) := by decide +kernel
theorem dX2_says_283 : decode cX2_says 283 = .ok (.iaload, 1) := by decide +kernel
theorem dX2_says_284 : decode cX2_says 284 = .ok (.istore 10, 2) := by decide +kernel
theorem dX2_says_286 : decode cX2_says 286 = .ok (.aload_n 0, 1) := by decide +kernel
theorem dX2_says_287 : decode cX2_says 287 = .ok (.getfield 9, 3) := by decide +kernel
theorem dX2_says_290 : decode cX2_says 290 = .ok (.iload 6, 2) := by decide +kernel
theorem dX2_says_292 : decode cX2_says 292 = .ok (.iconst 1, 1) := by decide +kernel
theorem dX2_says_293 : decode cX2_says 293 = .ok (.isub, 1) := by decide +kernel
theorem dX2_says_294 : decode cX2_says 294 = .ok (.iload 10, 2) := by decide +kernel
theorem dX2_says_296 : decode cX2_says 296 = .ok (.invokestatic 40, 3) := by decide +kernel
theorem dX2_says_299 : decode cX2_says 299 = .ok (.ifCond .eq 13, 3) := by decide +kernel
theorem dX2_says_302 : decode cX2_says 302 = .ok (.aload_n 3, 1) := by decide +kernel
theorem dX2_says_303 : decode cX2_says 303 = .ok (.bipush 20, 2) := by decide +kernel
theorem dX2_says_305 : decode cX2_says 305 = .ok (.iload 10, 2) := by decide +kernel
theorem dX2_says_307 : decode cX2_says 307 = .ok (.iadd, 1) := by decide +kernel
theorem dX2_says_308 : decode cX2_says 308 = .ok (.iaload, 1) := by decide +kernel
theorem dX2_says_309 : decode cX2_says 309 = .ok (.goto 4, 3) := by decide +kernel
theorem dX2_says_312 : decode cX2_says 312 = .ok (.iconst 0, 1) := by decide +kernel
theorem dX2_says_313 : decode cX2_says 313 = .ok (.iastore, 1) := by decide +kernel
theorem dX2_says_314 : decode cX2_says 314 = .ok (.goto 59, 3) := by decide +kernel
theorem dX2_says_317 : decode cX2_says 317 = .ok (.iload 6, 2) := by decide +kernel
theorem dX2_says_319 : decode cX2_says 319 = .ok (.iconst 1, 1) := by decide +kernel
theorem dX2_says_320 : decode cX2_says 320 = .ok (.if_icmp .le 53, 3) := by decide +kernel
theorem dX2_says_323 : decode cX2_says 323 = .ok (.iinc 6 (-1), 3) := by decide +kernel
theorem dX2_says_326 : decode cX2_says 326 = .ok (.iload 8, 2) := by decide +kernel
theorem dX2_says_328 : decode cX2_says 328 = .ok (.aload_n 0, 1) := by decide +kernel
theorem dX2_says_329 : decode cX2_says 329 = .ok (.getfield 9, 3) := by decide +kernel
theorem dX2_says_332 : decode cX2_says 332 = .ok (.iload 6, 2) := by decide +kernel
theorem dX2_says_334 : decode cX2_says 334 = .ok (.iconst 1, 1) := by decide +kernel
theorem dX2_says_335 : decode cX2_says 335 = .ok (.isub, 1) := by decide +kernel
theorem dX2_says_336 : decode cX2_says 336 = .ok (.iaload, 1) := by decide +kernel
theorem dX2_says_337 : decode cX2_says 337 = .ok (.aload_n 0, 1) := by decide +kernel
theorem dX2_says_338 : decode cX2_says 338 = .ok (.getfield 9, 3) := by decide +kernel
theorem dX2_says_341 : decode cX2_says 341 = .ok (.iload 6, 2) := by decide +kernel
theorem dX2_says_343 : decode cX2_says 343 = .ok (.iaload, 1) := by decide +kernel
theorem dX2_says_344 : decode cX2_says 344 = .ok (.invokestatic 43, 3) := by decide +kernel
theorem dX2_says_347 : decode cX2_says 347 = .ok (.lstore 10, 2) := by decide +kernel
theorem dX2_says_349 : decode cX2_says 349 = .ok (.aload_n 0, 1) := by decide +kernel
theorem dX2_says_350 : decode cX2_says 350 = .ok (.getfield 9, 3) := by decide +kernel
theorem dX2_says_353 : decode cX2_says 353 = .ok (.iload 6, 2) := by decide +kernel
theorem dX2_says_355 : decode cX2_says 355 = .ok (.iconst 1, 1) := by decide +kernel
theorem dX2_says_356 : decode cX2_says 356 = .ok (.isub, 1) := by decide +kernel
theorem dX2_says_357 : decode cX2_says 357 = .ok (.ldc2_w 47, 3) := by decide +kernel
theorem dX2_says_360 : decode cX2_says 360 = .ok (.ldc2_w 49, 3) := by decide +kernel
theorem dX2_says_363 : decode cX2_says 363 = .ok (.lload 10, 2) := by decide +kernel
theorem dX2_says_365 : decode cX2_says 365 = .ok (.invokestatic 51, 3) := by decide +kernel
theorem dX2_says_368 : decode cX2_says 368 = .ok (.invokestatic 55, 3) := by decide +kernel
theorem dX2_says_371 : decode cX2_says 371 = .ok (.l2i, 1) := by decide +kernel
theorem dX2_says_372 : decode cX2_says 372 = .ok (.iastore, 1) := by decide +kernel
theorem dX2_says_373 : decode cX2_says 373 = .ok (.iinc 7 1, 3) := by decide +kernel
theorem dX2_says_376 : decode cX2_says 376 = .ok (.goto (-370), 3) := by decide +kernel
theorem dX2_says_379 : decode cX2_says 379 = .ok (.iload 6, 2) := by decide +kernel
theorem dX2_says_381 : decode cX2_says 381 = .ok (.ifCond .le 12, 3) := by decide +kernel
theorem dX2_says_384 : decode cX2_says 384 = .ok (.aload_n 0, 1) := by decide +kernel
theorem dX2_says_385 : decode cX2_says 385 = .ok (.getfield 9, 3) := by decide +kernel
theorem dX2_says_388 : decode cX2_says 388 = .ok (.iconst 0, 1) := by decide +kernel
theorem dX2_says_389 : decode cX2_says 389 = .ok (.iaload, 1) := by decide +kernel
theorem dX2_says_390 : decode cX2_says 390 = .ok (.goto 4, 3) := by decide +kernel
theorem dX2_says_393 : decode cX2_says 393 = .ok (.iconst 0, 1) := by decide +kernel
theorem dX2_says_394 : decode cX2_says 394 = .ok (.ireturn, 1) := by decide +kernel
theorem dX2_named_0 : decode cX2_named 0 = .ok (.aload_n 1, 1) := by decide +kernel
theorem dX2_named_1 : decode cX2_named 1 = .ok (.iconst 0, 1) := by decide +kernel
theorem dX2_named_2 : decode cX2_named 2 = .ok (.iload_n 2, 1) := by decide +kernel
theorem dX2_named_3 : decode cX2_named 3 = .ok (.iadd, 1) := by decide +kernel
theorem dX2_named_4 : decode cX2_named 4 = .ok (.iaload, 1) := by decide +kernel
theorem dX2_named_5 : decode cX2_named 5 = .ok (.istore_n 3, 1) := by decide +kernel
theorem dX2_named_6 : decode cX2_named 6 = .ok (.iload_n 0, 1) := by decide +kernel
theorem dX2_named_7 : decode cX2_named 7 = .ok (.tableswitch 67 9 14 #[37, 42, 44, 51, 58, 60], 37) := by decide +kernel
theorem dX2_named_44 : decode cX2_named 44 = .ok (.aload_n 1, 1) := by decide +kernel
theorem dX2_named_45 : decode cX2_named 45 = .ok (.bipush 51, 2) := by decide +kernel
theorem dX2_named_47 : decode cX2_named 47 = .ok (.iaload, 1) := by decide +kernel
theorem dX2_named_48 : decode cX2_named 48 = .ok (.ireturn, 1) := by decide +kernel
theorem dX2_named_49 : decode cX2_named 49 = .ok (.iload_n 2, 1) := by decide +kernel
theorem dX2_named_50 : decode cX2_named 50 = .ok (.ireturn, 1) := by decide +kernel
theorem dX2_named_51 : decode cX2_named 51 = .ok (.aload_n 1, 1) := by decide +kernel
theorem dX2_named_52 : decode cX2_named 52 = .ok (.bipush 10, 2) := by decide +kernel
theorem dX2_named_54 : decode cX2_named 54 = .ok (.iload_n 2, 1) := by decide +kernel
theorem dX2_named_55 : decode cX2_named 55 = .ok (.iadd, 1) := by decide +kernel
theorem dX2_named_56 : decode cX2_named 56 = .ok (.iaload, 1) := by decide +kernel
theorem dX2_named_57 : decode cX2_named 57 = .ok (.ireturn, 1) := by decide +kernel
theorem dX2_named_58 : decode cX2_named 58 = .ok (.aload_n 1, 1) := by decide +kernel
theorem dX2_named_59 : decode cX2_named 59 = .ok (.bipush 15, 2) := by decide +kernel
theorem dX2_named_61 : decode cX2_named 61 = .ok (.iload_n 2, 1) := by decide +kernel
theorem dX2_named_62 : decode cX2_named 62 = .ok (.iadd, 1) := by decide +kernel
theorem dX2_named_63 : decode cX2_named 63 = .ok (.iaload, 1) := by decide +kernel
theorem dX2_named_64 : decode cX2_named 64 = .ok (.ireturn, 1) := by decide +kernel
theorem dX2_named_65 : decode cX2_named 65 = .ok (.iload_n 3, 1) := by decide +kernel
theorem dX2_named_66 : decode cX2_named 66 = .ok (.ireturn, 1) := by decide +kernel
theorem dX2_named_67 : decode cX2_named 67 = .ok (.aload_n 1, 1) := by decide +kernel
theorem dX2_named_68 : decode cX2_named 68 = .ok (.bipush 86, 2) := by decide +kernel
theorem dX2_named_70 : decode cX2_named 70 = .ok (.iload_n 3, 1) := by decide +kernel
theorem dX2_named_71 : decode cX2_named 71 = .ok (.iadd, 1) := by decide +kernel
theorem dX2_named_72 : decode cX2_named 72 = .ok (.iaload, 1) := by decide +kernel
theorem dX2_named_73 : decode cX2_named 73 = .ok (.ireturn, 1) := by decide +kernel
theorem dX2_named_74 : decode cX2_named 74 = .ok (.aload_n 1, 1) := by decide +kernel
theorem dX2_named_75 : decode cX2_named 75 = .ok (.bipush 20, 2) := by decide +kernel
theorem dX2_named_77 : decode cX2_named 77 = .ok (.iload_n 3, 1) := by decide +kernel
theorem dX2_named_78 : decode cX2_named 78 = .ok (.iadd, 1) := by decide +kernel
theorem dX2_named_79 : decode cX2_named 79 = .ok (.iaload, 1) := by decide +kernel
theorem dX2_named_80 : decode cX2_named 80 = .ok (.ireturn, 1) := by decide +kernel
theorem dX2_joined_0 : decode cX2_joined 0 = .ok (.iload_n 0, 1) := by decide +kernel
theorem dX2_joined_1 : decode cX2_joined 1 = .ok (.tableswitch 227 17 40 #[140, 227, 227, 227, 227, 227, 227, 227, 227, 227, 222, 156, 178, 200, 211, 111, 116, 121, 127, 227, 227, 227, 167, 189], 111) := by decide +kernel
theorem dX2_joined_112 : decode cX2_joined 112 = .ok (.iload_n 1, 1) := by decide +kernel
theorem dX2_joined_113 : decode cX2_joined 113 = .ok (.iload_n 2, 1) := by decide +kernel
theorem dX2_joined_114 : decode cX2_joined 114 = .ok (.iadd, 1) := by decide +kernel
theorem dX2_joined_115 : decode cX2_joined 115 = .ok (.i2l, 1) := by decide +kernel
theorem dX2_joined_116 : decode cX2_joined 116 = .ok (.lreturn, 1) := by decide +kernel
theorem dX2_joined_117 : decode cX2_joined 117 = .ok (.iload_n 1, 1) := by decide +kernel
theorem dX2_joined_118 : decode cX2_joined 118 = .ok (.iload_n 2, 1) := by decide +kernel
theorem dX2_joined_119 : decode cX2_joined 119 = .ok (.isub, 1) := by decide +kernel
theorem dX2_joined_120 : decode cX2_joined 120 = .ok (.i2l, 1) := by decide +kernel
theorem dX2_joined_121 : decode cX2_joined 121 = .ok (.lreturn, 1) := by decide +kernel
theorem dX2_joined_122 : decode cX2_joined 122 = .ok (.iload_n 1, 1) := by decide +kernel
theorem dX2_joined_123 : decode cX2_joined 123 = .ok (.i2l, 1) := by decide +kernel
theorem dX2_joined_124 : decode cX2_joined 124 = .ok (.iload_n 2, 1) := by decide +kernel
theorem dX2_joined_125 : decode cX2_joined 125 = .ok (.i2l, 1) := by decide +kernel
theorem dX2_joined_126 : decode cX2_joined 126 = .ok (.lmul, 1) := by decide +kernel
theorem dX2_joined_127 : decode cX2_joined 127 = .ok (.lreturn, 1) := by decide +kernel
theorem dX2_joined_128 : decode cX2_joined 128 = .ok (.iload_n 2, 1) := by decide +kernel
theorem dX2_joined_129 : decode cX2_joined 129 = .ok (.ifCond .ne 7, 3) := by decide +kernel
theorem dX2_joined_132 : decode cX2_joined 132 = .ok (.lconst 0, 1) := by decide +kernel
theorem dX2_joined_133 : decode cX2_joined 133 = .ok (.goto 7, 3) := by decide +kernel
theorem dX2_joined_136 : decode cX2_joined 136 = .ok (.iload_n 1, 1) := by decide +kernel
theorem dX2_joined_137 : decode cX2_joined 137 = .ok (.iload_n 2, 1) := by decide +kernel
theorem dX2_joined_138 : decode cX2_joined 138 = .ok (.idiv, 1) := by decide +kernel
theorem dX2_joined_139 : decode cX2_joined 139 = .ok (.i2l, 1) := by decide +kernel
theorem dX2_joined_140 : decode cX2_joined 140 = .ok (.lreturn, 1) := by decide +kernel
theorem dX2_joined_141 : decode cX2_joined 141 = .ok (.iload_n 2, 1) := by decide +kernel
theorem dX2_joined_142 : decode cX2_joined 142 = .ok (.ifCond .ne 7, 3) := by decide +kernel
theorem dX2_joined_145 : decode cX2_joined 145 = .ok (.lconst 0, 1) := by decide +kernel
theorem dX2_joined_146 : decode cX2_joined 146 = .ok (.goto 10, 3) := by decide +kernel
theorem dX2_joined_149 : decode cX2_joined 149 = .ok (.iload_n 1, 1) := by decide +kernel
theorem dX2_joined_150 : decode cX2_joined 150 = .ok (.bipush 100, 2) := by decide +kernel
theorem dX2_joined_152 : decode cX2_joined 152 = .ok (.imul, 1) := by decide +kernel
theorem dX2_joined_153 : decode cX2_joined 153 = .ok (.iload_n 2, 1) := by decide +kernel
theorem dX2_joined_154 : decode cX2_joined 154 = .ok (.idiv, 1) := by decide +kernel
theorem dX2_joined_155 : decode cX2_joined 155 = .ok (.i2l, 1) := by decide +kernel
theorem dX2_joined_156 : decode cX2_joined 156 = .ok (.lreturn, 1) := by decide +kernel
theorem dX2_joined_157 : decode cX2_joined 157 = .ok (.iload_n 1, 1) := by decide +kernel
theorem dX2_joined_158 : decode cX2_joined 158 = .ok (.iload_n 2, 1) := by decide +kernel
theorem dX2_joined_159 : decode cX2_joined 159 = .ok (.if_icmp .ge 7, 3) := by decide +kernel
theorem dX2_joined_162 : decode cX2_joined 162 = .ok (.lconst 1, 1) := by decide +kernel
theorem dX2_joined_163 : decode cX2_joined 163 = .ok (.goto 4, 3) := by decide +kernel
theorem dX2_joined_166 : decode cX2_joined 166 = .ok (.lconst 0, 1) := by decide +kernel
theorem dX2_joined_167 : decode cX2_joined 167 = .ok (.lreturn, 1) := by decide +kernel
theorem dX2_joined_168 : decode cX2_joined 168 = .ok (.iload_n 1, 1) := by decide +kernel
theorem dX2_joined_169 : decode cX2_joined 169 = .ok (.iload_n 2, 1) := by decide +kernel
theorem dX2_joined_170 : decode cX2_joined 170 = .ok (.if_icmp .gt 7, 3) := by decide +kernel
theorem dX2_joined_173 : decode cX2_joined 173 = .ok (.lconst 1, 1) := by decide +kernel
theorem dX2_joined_174 : decode cX2_joined 174 = .ok (.goto 4, 3) := by decide +kernel
theorem dX2_joined_177 : decode cX2_joined 177 = .ok (.lconst 0, 1) := by decide +kernel
theorem dX2_joined_178 : decode cX2_joined 178 = .ok (.lreturn, 1) := by decide +kernel
theorem dX2_joined_179 : decode cX2_joined 179 = .ok (.iload_n 1, 1) := by decide +kernel
theorem dX2_joined_180 : decode cX2_joined 180 = .ok (.iload_n 2, 1) := by decide +kernel
theorem dX2_joined_181 : decode cX2_joined 181 = .ok (.if_icmp .le 7, 3) := by decide +kernel
theorem dX2_joined_184 : decode cX2_joined 184 = .ok (.lconst 1, 1) := by decide +kernel
theorem dX2_joined_185 : decode cX2_joined 185 = .ok (.goto 4, 3) := by decide +kernel
theorem dX2_joined_188 : decode cX2_joined 188 = .ok (.lconst 0, 1) := by decide +kernel
theorem dX2_joined_189 : decode cX2_joined 189 = .ok (.lreturn, 1) := by decide +kernel
theorem dX2_joined_190 : decode cX2_joined 190 = .ok (.iload_n 1, 1) := by decide +kernel
theorem dX2_joined_191 : decode cX2_joined 191 = .ok (.iload_n 2, 1) := by decide +kernel
theorem dX2_joined_192 : decode cX2_joined 192 = .ok (.if_icmp .lt 7, 3) := by decide +kernel
theorem dX2_joined_195 : decode cX2_joined 195 = .ok (.lconst 1, 1) := by decide +kernel
theorem dX2_joined_196 : decode cX2_joined 196 = .ok (.goto 4, 3) := by decide +kernel
theorem dX2_joined_199 : decode cX2_joined 199 = .ok (.lconst 0, 1) := by decide +kernel
theorem dX2_joined_200 : decode cX2_joined 200 = .ok (.lreturn, 1) := by decide +kernel
theorem dX2_joined_201 : decode cX2_joined 201 = .ok (.iload_n 1, 1) := by decide +kernel
theorem dX2_joined_202 : decode cX2_joined 202 = .ok (.iload_n 2, 1) := by decide +kernel
theorem dX2_joined_203 : decode cX2_joined 203 = .ok (.if_icmp .ne 7, 3) := by decide +kernel
theorem dX2_joined_206 : decode cX2_joined 206 = .ok (.lconst 1, 1) := by decide +kernel
theorem dX2_joined_207 : decode cX2_joined 207 = .ok (.goto 4, 3) := by decide +kernel
theorem dX2_joined_210 : decode cX2_joined 210 = .ok (.lconst 0, 1) := by decide +kernel
theorem dX2_joined_211 : decode cX2_joined 211 = .ok (.lreturn, 1) := by decide +kernel
theorem dX2_joined_212 : decode cX2_joined 212 = .ok (.iload_n 1, 1) := by decide +kernel
theorem dX2_joined_213 : decode cX2_joined 213 = .ok (.iload_n 2, 1) := by decide +kernel
theorem dX2_joined_214 : decode cX2_joined 214 = .ok (.if_icmp .eq 7, 3) := by decide +kernel
theorem dX2_joined_217 : decode cX2_joined 217 = .ok (.lconst 1, 1) := by decide +kernel
theorem dX2_joined_218 : decode cX2_joined 218 = .ok (.goto 4, 3) := by decide +kernel
theorem dX2_joined_221 : decode cX2_joined 221 = .ok (.lconst 0, 1) := by decide +kernel
theorem dX2_joined_222 : decode cX2_joined 222 = .ok (.lreturn, 1) := by decide +kernel
theorem dX2_joined_223 : decode cX2_joined 223 = .ok (.iload_n 1, 1) := by decide +kernel
theorem dX2_joined_224 : decode cX2_joined 224 = .ok (.iload_n 2, 1) := by decide +kernel
theorem dX2_joined_225 : decode cX2_joined 225 = .ok (.iand, 1) := by decide +kernel
theorem dX2_joined_226 : decode cX2_joined 226 = .ok (.i2l, 1) := by decide +kernel
theorem dX2_joined_227 : decode cX2_joined 227 = .ok (.lreturn, 1) := by decide +kernel
theorem dX2_joined_228 : decode cX2_joined 228 = .ok (.iload_n 1, 1) := by decide +kernel
theorem dX2_joined_229 : decode cX2_joined 229 = .ok (.iload_n 2, 1) := by decide +kernel
theorem dX2_joined_230 : decode cX2_joined 230 = .ok (.ior, 1) := by decide +kernel
theorem dX2_joined_231 : decode cX2_joined 231 = .ok (.i2l, 1) := by decide +kernel
theorem dX2_joined_232 : decode cX2_joined 232 = .ok (.lreturn, 1) := by decide +kernel
theorem dX3_init_0 : decode cX3_init 0 = .ok (.aload_n 0, 1) := by decide +kernel
theorem dX3_init_1 : decode cX3_init 1 = .ok (.invokespecial 3, 3) := by decide +kernel
theorem dX3_init_4 : decode cX3_init 4 = .ok (.aload_n 0, 1) := by decide +kernel
theorem dX3_init_5 : decode cX3_init 5 = .ok (.bipush 24, 2) := by decide +kernel
theorem dX3_init_7 : decode cX3_init 7 = .ok (.newarray .int, 2) := by decide +kernel
theorem dX3_init_9 : decode cX3_init 9 = .ok (.putfield 9, 3) := by decide +kernel
theorem dX3_init_12 : decode cX3_init 12 = .ok (.aload_n 0, 1) := by decide +kernel
theorem dX3_init_13 : decode cX3_init 13 = .ok (.bipush 24, 2) := by decide +kernel
theorem dX3_init_15 : decode cX3_init 15 = .ok (.newarray .int, 2) := by decide +kernel
theorem dX3_init_17 : decode cX3_init 17 = .ok (.putfield 15, 3) := by decide +kernel
theorem dX3_init_20 : decode cX3_init 20 = .ok (.aload_n 0, 1) := by decide +kernel
theorem dX3_init_21 : decode cX3_init 21 = .ok (.bipush 24, 2) := by decide +kernel
theorem dX3_init_23 : decode cX3_init 23 = .ok (.newarray .int, 2) := by decide +kernel
theorem dX3_init_25 : decode cX3_init 25 = .ok (.putfield 18, 3) := by decide +kernel
theorem dX3_init_28 : decode cX3_init 28 = .ok (.aload_n 0, 1) := by decide +kernel
theorem dX3_init_29 : decode cX3_init 29 = .ok (.sipush 300, 3) := by decide +kernel
theorem dX3_init_32 : decode cX3_init 32 = .ok (.newarray .int, 2) := by decide +kernel
theorem dX3_init_34 : decode cX3_init 34 = .ok (.putfield 21, 3) := by decide +kernel
theorem dX3_init_37 : decode cX3_init 37 = .ok (.aload_n 0, 1) := by decide +kernel
theorem dX3_init_38 : decode cX3_init 38 = .ok (.iconst 0, 1) := by decide +kernel
theorem dX3_init_39 : decode cX3_init 39 = .ok (.putfield 24, 3) := by decide +kernel
theorem dX3_init_42 : decode cX3_init 42 = .ok (.aload_n 0, 1) := by decide +kernel
theorem dX3_init_43 : decode cX3_init 43 = .ok (.iconst 0, 1) := by decide +kernel
theorem dX3_init_44 : decode cX3_init 44 = .ok (.putfield 28, 3) := by decide +kernel
theorem dX3_init_47 : decode cX3_init 47 = .ok (.aload_n 0, 1) := by decide +kernel
theorem dX3_init_48 : decode cX3_init 48 = .ok (.iconst (-1), 1) := by decide +kernel
theorem dX3_init_49 : decode cX3_init 49 = .ok (.putfield 31, 3) := by decide +kernel
theorem dX3_init_52 : decode cX3_init 52 = .ok (.aload_n 0, 1) := by decide +kernel
theorem dX3_init_53 : decode cX3_init 53 = .ok (.iconst (-1), 1) := by decide +kernel
theorem dX3_init_54 : decode cX3_init 54 = .ok (.putfield 34, 3) := by decide +kernel
theorem dX3_init_57 : decode cX3_init 57 = .ok (.return_, 1) := by decide +kernel
theorem dX3_clear_0 : decode cX3_clear 0 = .ok (.aload_n 0, 1) := by decide +kernel
theorem dX3_clear_1 : decode cX3_clear 1 = .ok (.iconst 0, 1) := by decide +kernel
theorem dX3_clear_2 : decode cX3_clear 2 = .ok (.putfield 24, 3) := by decide +kernel
theorem dX3_clear_5 : decode cX3_clear 5 = .ok (.aload_n 0, 1) := by decide +kernel
theorem dX3_clear_6 : decode cX3_clear 6 = .ok (.iconst 0, 1) := by decide +kernel
theorem dX3_clear_7 : decode cX3_clear 7 = .ok (.putfield 28, 3) := by decide +kernel
theorem dX3_clear_10 : decode cX3_clear 10 = .ok (.aload_n 0, 1) := by decide +kernel
theorem dX3_clear_11 : decode cX3_clear 11 = .ok (.iconst (-1), 1) := by decide +kernel
theorem dX3_clear_12 : decode cX3_clear 12 = .ok (.putfield 31, 3) := by decide +kernel
theorem dX3_clear_15 : decode cX3_clear 15 = .ok (.aload_n 0, 1) := by decide +kernel
theorem dX3_clear_16 : decode cX3_clear 16 = .ok (.iconst (-1), 1) := by decide +kernel
theorem dX3_clear_17 : decode cX3_clear 17 = .ok (.putfield 34, 3) := by decide +kernel
theorem dX3_clear_20 : decode cX3_clear 20 = .ok (.return_, 1) := by decide +kernel
theorem dX3_addClause_0 : decode cX3_addClause 0 = .ok (.aload_n 0, 1) := by decide +kernel
theorem dX3_addClause_1 : decode cX3_addClause 1 = .ok (.getfield 24, 3) := by decide +kernel
theorem dX3_addClause_4 : decode cX3_addClause 4 = .ok (.bipush 24, 2) := by decide +kernel
theorem dX3_addClause_6 : decode cX3_addClause 6 = .ok (.if_icmp .ge 43, 3) := by decide +kernel
theorem dX3_addClause_9 : decode cX3_addClause 9 = .ok (.aload_n 0, 1) := by decide +kernel
theorem dX3_addClause_10 : decode cX3_addClause 10 = .ok (.getfield 9, 3) := by decide +kernel
theorem dX3_addClause_13 : decode cX3_addClause 13 = .ok (.aload_n 0, 1) := by decide +kernel
theorem dX3_addClause_14 : decode cX3_addClause 14 = .ok (.getfield 24, 3) := by decide +kernel
theorem dX3_addClause_17 : decode cX3_addClause 17 = .ok (.iload_n 1, 1) := by decide +kernel
theorem dX3_addClause_18 : decode cX3_addClause 18 = .ok (.iastore, 1) := by decide +kernel
theorem dX3_addClause_19 : decode cX3_addClause 19 = .ok (.aload_n 0, 1) := by decide +kernel
theorem dX3_addClause_20 : decode cX3_addClause 20 = .ok (.getfield 15, 3) := by decide +kernel
theorem dX3_addClause_23 : decode cX3_addClause 23 = .ok (.aload_n 0, 1) := by decide +kernel
theorem dX3_addClause_24 : decode cX3_addClause 24 = .ok (.getfield 24, 3) := by decide +kernel
theorem dX3_addClause_27 : decode cX3_addClause 27 = .ok (.iload_n 2, 1) := by decide +kernel
theorem dX3_addClause_28 : decode cX3_addClause 28 = .ok (.iastore, 1) := by decide +kernel
theorem dX3_addClause_29 : decode cX3_addClause 29 = .ok (.aload_n 0, 1) := by decide +kernel
theorem dX3_addClause_30 : decode cX3_addClause 30 = .ok (.getfield 18, 3) := by decide +kernel
theorem dX3_addClause_33 : decode cX3_addClause 33 = .ok (.aload_n 0, 1) := by decide +kernel
theorem dX3_addClause_34 : decode cX3_addClause 34 = .ok (.getfield 24, 3) := by decide +kernel
theorem dX3_addClause_37 : decode cX3_addClause 37 = .ok (.iload_n 3, 1) := by decide +kernel
theorem dX3_addClause_38 : decode cX3_addClause 38 = .ok (.iastore, 1) := by decide +kernel
theorem dX3_addClause_39 : decode cX3_addClause 39 = .ok (.aload_n 0, 1) := by decide +kernel
theorem dX3_addClause_40 : decode cX3_addClause 40 = .ok (.dup, 1) := by decide +kernel
theorem dX3_addClause_41 : decode cX3_addClause 41 = .ok (.getfield 24, 3) := by decide +kernel
theorem dX3_addClause_44 : decode cX3_addClause 44 = .ok (.iconst 1, 1) := by decide +kernel
theorem dX3_addClause_45 : decode cX3_addClause 45 = .ok (.iadd, 1) := by decide +kernel
theorem dX3_addClause_46 : decode cX3_addClause 46 = .ok (.putfield 24, 3) := by decide +kernel
theorem dX3_addClause_49 : decode cX3_addClause 49 = .ok (.return_, 1) := by decide +kernel
theorem dX3_addCode_0 : decode cX3_addCode 0 = .ok (.aload_n 0, 1) := by decide +kernel
theorem dX3_addCode_1 : decode cX3_addCode 1 = .ok (.getfield 28, 3) := by decide +kernel
theorem dX3_addCode_4 : decode cX3_addCode 4 = .ok (.aload_n 0, 1) := by decide +kernel
theorem dX3_addCode_5 : decode cX3_addCode 5 = .ok (.getfield 21, 3) := by decide +kernel
theorem dX3_addCode_8 : decode cX3_addCode 8 = .ok (.arraylength, 1) := by decide +kernel
theorem dX3_addCode_9 : decode cX3_addCode 9 = .ok (.if_icmp .ge 28, 3) := by decide +kernel
theorem dX3_addCode_12 : decode cX3_addCode 12 = .ok (.aload_n 0, 1) := by decide +kernel
theorem dX3_addCode_13 : decode cX3_addCode 13 = .ok (.getfield 21, 3) := by decide +kernel
theorem dX3_addCode_16 : decode cX3_addCode 16 = .ok (.aload_n 0, 1) := by decide +kernel
theorem dX3_addCode_17 : decode cX3_addCode 17 = .ok (.getfield 28, 3) := by decide +kernel
theorem dX3_addCode_20 : decode cX3_addCode 20 = .ok (.iload_n 2, 1) := by decide +kernel
theorem dX3_addCode_21 : decode cX3_addCode 21 = .ok (.bipush 64, 2) := by decide +kernel
theorem dX3_addCode_23 : decode cX3_addCode 23 = .ok (.imul, 1) := by decide +kernel
theorem dX3_addCode_24 : decode cX3_addCode 24 = .ok (.iload_n 1, 1) := by decide +kernel
theorem dX3_addCode_25 : decode cX3_addCode 25 = .ok (.iadd, 1) := by decide +kernel
theorem dX3_addCode_26 : decode cX3_addCode 26 = .ok (.iastore, 1) := by decide +kernel
theorem dX3_addCode_27 : decode cX3_addCode 27 = .ok (.aload_n 0, 1) := by decide +kernel
theorem dX3_addCode_28 : decode cX3_addCode 28 = .ok (.dup, 1) := by decide +kernel
theorem dX3_addCode_29 : decode cX3_addCode 29 = .ok (.getfield 28, 3) := by decide +kernel
theorem dX3_addCode_32 : decode cX3_addCode 32 = .ok (.iconst 1, 1) := by decide +kernel
theorem dX3_addCode_33 : decode cX3_addCode 33 = .ok (.iadd, 1) := by decide +kernel
theorem dX3_addCode_34 : decode cX3_addCode 34 = .ok (.putfield 28, 3) := by decide +kernel
theorem dX3_addCode_37 : decode cX3_addCode 37 = .ok (.return_, 1) := by decide +kernel
theorem dX3_skipToHere_0 : decode cX3_skipToHere 0 = .ok (.iload_n 1, 1) := by decide +kernel
theorem dX3_skipToHere_1 : decode cX3_skipToHere 1 = .ok (.ifCond .lt 34, 3) := by decide +kernel
theorem dX3_skipToHere_4 : decode cX3_skipToHere 4 = .ok (.iload_n 1, 1) := by decide +kernel
theorem dX3_skipToHere_5 : decode cX3_skipToHere 5 = .ok (.aload_n 0, 1) := by decide +kernel
theorem dX3_skipToHere_6 : decode cX3_skipToHere 6 = .ok (.getfield 28, 3) := by decide +kernel
theorem dX3_skipToHere_9 : decode cX3_skipToHere 9 = .ok (.if_icmp .ge 26, 3) := by decide +kernel
theorem dX3_skipToHere_12 : decode cX3_skipToHere 12 = .ok (.aload_n 0, 1) := by decide +kernel
theorem dX3_skipToHere_13 : decode cX3_skipToHere 13 = .ok (.getfield 21, 3) := by decide +kernel
theorem dX3_skipToHere_16 : decode cX3_skipToHere 16 = .ok (.iload_n 1, 1) := by decide +kernel
theorem dX3_skipToHere_17 : decode cX3_skipToHere 17 = .ok (.aload_n 0, 1) := by decide +kernel
theorem dX3_skipToHere_18 : decode cX3_skipToHere 18 = .ok (.getfield 28, 3) := by decide +kernel
theorem dX3_skipToHere_21 : decode cX3_skipToHere 21 = .ok (.bipush 64, 2) := by decide +kernel
theorem dX3_skipToHere_23 : decode cX3_skipToHere 23 = .ok (.imul, 1) := by decide +kernel
theorem dX3_skipToHere_24 : decode cX3_skipToHere 24 = .ok (.aload_n 0, 1) := by decide +kernel
theorem dX3_skipToHere_25 : decode cX3_skipToHere 25 = .ok (.getfield 21, 3) := by decide +kernel
theorem dX3_skipToHere_28 : decode cX3_skipToHere 28 = .ok (.iload_n 1, 1) := by decide +kernel
theorem dX3_skipToHere_29 : decode cX3_skipToHere 29 = .ok (.iaload, 1) := by decide +kernel
theorem dX3_skipToHere_30 : decode cX3_skipToHere 30 = .ok (.bipush 64, 2) := by decide +kernel
theorem dX3_skipToHere_32 : decode cX3_skipToHere 32 = .ok (.irem, 1) := by decide +kernel
theorem dX3_skipToHere_33 : decode cX3_skipToHere 33 = .ok (.iadd, 1) := by decide +kernel
theorem dX3_skipToHere_34 : decode cX3_skipToHere 34 = .ok (.iastore, 1) := by decide +kernel
theorem dX3_skipToHere_35 : decode cX3_skipToHere 35 = .ok (.return_, 1) := by decide +kernel
theorem dX4_init_0 : decode cX4_init 0 = .ok (.aload_n 0, 1) := by decide +kernel
theorem dX4_init_1 : decode cX4_init 1 = .ok (.invokespecial 3, 3) := by decide +kernel
theorem dX4_init_4 : decode cX4_init 4 = .ok (.aload_n 0, 1) := by decide +kernel
theorem dX4_init_5 : decode cX4_init 5 = .ok (.bipush 30, 2) := by decide +kernel
theorem dX4_init_7 : decode cX4_init 7 = .ok (.newarray .int, 2) := by decide +kernel
theorem dX4_init_9 : decode cX4_init 9 = .ok (.putfield 9, 3) := by decide +kernel
theorem dX4_init_12 : decode cX4_init 12 = .ok (.return_, 1) := by decide +kernel
theorem dX4_fewest_0 : decode cX4_fewest 0 = .ok (.iconst 1, 1) := by decide +kernel
theorem dX4_fewest_1 : decode cX4_fewest 1 = .ok (.iload_n 1, 1) := by decide +kernel
theorem dX4_fewest_2 : decode cX4_fewest 2 = .ok (.ishl, 1) := by decide +kernel
theorem dX4_fewest_3 : decode cX4_fewest 3 = .ok (.invokestatic 15, 3) := by decide +kernel
theorem dX4_fewest_6 : decode cX4_fewest 6 = .ok (.iload_n 3, 1) := by decide +kernel
theorem dX4_fewest_7 : decode cX4_fewest 7 = .ok (.iand, 1) := by decide +kernel
theorem dX4_fewest_8 : decode cX4_fewest 8 = .ok (.istore 4, 2) := by decide +kernel
theorem dX4_fewest_10 : decode cX4_fewest 10 = .ok (.iconst 1, 1) := by decide +kernel
theorem dX4_fewest_11 : decode cX4_fewest 11 = .ok (.iload_n 2, 1) := by decide +kernel
theorem dX4_fewest_12 : decode cX4_fewest 12 = .ok (.ishl, 1) := by decide +kernel
theorem dX4_fewest_13 : decode cX4_fewest 13 = .ok (.invokestatic 15, 3) := by decide +kernel
theorem dX4_fewest_16 : decode cX4_fewest 16 = .ok (.iload_n 3, 1) := by decide +kernel
theorem dX4_fewest_17 : decode cX4_fewest 17 = .ok (.iand, 1) := by decide +kernel
theorem dX4_fewest_18 : decode cX4_fewest 18 = .ok (.istore 5, 2) := by decide +kernel
theorem dX4_fewest_20 : decode cX4_fewest 20 = .ok (.iload 4, 2) := by decide +kernel
theorem dX4_fewest_22 : decode cX4_fewest 22 = .ok (.iload_n 2, 1) := by decide +kernel
theorem dX4_fewest_23 : decode cX4_fewest 23 = .ok (.invokestatic 21, 3) := by decide +kernel
theorem dX4_fewest_26 : decode cX4_fewest 26 = .ok (.ifCond .eq 5, 3) := by decide +kernel
theorem dX4_fewest_29 : decode cX4_fewest 29 = .ok (.iconst (-1), 1) := by decide +kernel
theorem dX4_fewest_30 : decode cX4_fewest 30 = .ok (.ireturn, 1) := by decide +kernel
theorem dX4_fewest_31 : decode cX4_fewest 31 = .ok (.iload 4, 2) := by decide +kernel
theorem dX4_fewest_33 : decode cX4_fewest 33 = .ok (.invokestatic 25, 3) := by decide +kernel
theorem dX4_fewest_36 : decode cX4_fewest 36 = .ok (.iload 5, 2) := by decide +kernel
theorem dX4_fewest_38 : decode cX4_fewest 38 = .ok (.invokestatic 25, 3) := by decide +kernel
theorem dX4_fewest_41 : decode cX4_fewest 41 = .ok (.invokestatic 30, 3) := by decide +kernel
theorem dX4_fewest_44 : decode cX4_fewest 44 = .ok (.istore 6, 2) := by decide +kernel
theorem dX4_fewest_46 : decode cX4_fewest 46 = .ok (.iconst 0, 1) := by decide +kernel
theorem dX4_fewest_47 : decode cX4_fewest 47 = .ok (.istore 7, 2) := by decide +kernel
theorem dX4_fewest_49 : decode cX4_fewest 49 = .ok (.iload 7, 2) := by decide +kernel
theorem dX4_fewest_51 : decode cX4_fewest 51 = .ok (.iload 6, 2) := by decide +kernel
theorem dX4_fewest_53 : decode cX4_fewest 53 = .ok (.if_icmp .ge 24, 3) := by decide +kernel
theorem dX4_fewest_56 : decode cX4_fewest 56 = .ok (.aload_n 0, 1) := by decide +kernel
theorem dX4_fewest_57 : decode cX4_fewest 57 = .ok (.iload_n 1, 1) := by decide +kernel
theorem dX4_fewest_58 : decode cX4_fewest 58 = .ok (.iload_n 2, 1) := by decide +kernel
theorem dX4_fewest_59 : decode cX4_fewest 59 = .ok (.iload_n 3, 1) := by decide +kernel
theorem dX4_fewest_60 : decode cX4_fewest 60 = .ok (.iload 7, 2) := by decide +kernel
theorem dX4_fewest_62 : decode cX4_fewest 62 = .ok (.invokevirtual 36, 3) := by decide +kernel
theorem dX4_fewest_65 : decode cX4_fewest 65 = .ok (.ifCond .eq 6, 3) := by decide +kernel
theorem dX4_fewest_68 : decode cX4_fewest 68 = .ok (.iload 7, 2) := by decide +kernel
theorem dX4_fewest_70 : decode cX4_fewest 70 = .ok (.ireturn, 1) := by decide +kernel
theorem dX4_fewest_71 : decode cX4_fewest 71 = .ok (.iinc 7 1, 3) := by decide +kernel
theorem dX4_fewest_74 : decode cX4_fewest 74 = .ok (.goto (-25), 3) := by decide +kernel
theorem dX4_fewest_77 : decode cX4_fewest 77 = .ok (.iload 6, 2) := by decide +kernel
theorem dX4_fewest_79 : decode cX4_fewest 79 = .ok (.ireturn, 1) := by decide +kernel
theorem dX4_parted_0 : decode cX4_parted 0 = .ok (.aload_n 0, 1) := by decide +kernel
theorem dX4_parted_1 : decode cX4_parted 1 = .ok (.iload_n 1, 1) := by decide +kernel
theorem dX4_parted_2 : decode cX4_parted 2 = .ok (.iload_n 2, 1) := by decide +kernel
theorem dX4_parted_3 : decode cX4_parted 3 = .ok (.iload_n 3, 1) := by decide +kernel
theorem dX4_parted_4 : decode cX4_parted 4 = .ok (.invokevirtual 40, 3) := by decide +kernel
theorem dX4_parted_7 : decode cX4_parted 7 = .ok (.istore 5, 2) := by decide +kernel
theorem dX4_parted_9 : decode cX4_parted 9 = .ok (.iload 5, 2) := by decide +kernel
theorem dX4_parted_11 : decode cX4_parted 11 = .ok (.iconst (-1), 1) := by decide +kernel
theorem dX4_parted_12 : decode cX4_parted 12 = .ok (.if_icmp .ne 5, 3) := by decide +kernel
theorem dX4_parted_15 : decode cX4_parted 15 = .ok (.iconst 1, 1) := by decide +kernel
theorem dX4_parted_16 : decode cX4_parted 16 = .ok (.ireturn, 1) := by decide +kernel
theorem dX4_parted_17 : decode cX4_parted 17 = .ok (.iconst 0, 1) := by decide +kernel
theorem dX4_parted_18 : decode cX4_parted 18 = .ok (.istore 6, 2) := by decide +kernel
theorem dX4_parted_20 : decode cX4_parted 20 = .ok (.iload 6, 2) := by decide +kernel
theorem dX4_parted_22 : decode cX4_parted 22 = .ok (.bipush 30, 2) := by decide +kernel
theorem dX4_parted_24 : decode cX4_parted 24 = .ok (.if_icmp .ge 47, 3) := by decide +kernel
theorem dX4_parted_27 : decode cX4_parted 27 = .ok (.iload 4, 2) := by decide +kernel
theorem dX4_parted_29 : decode cX4_parted 29 = .ok (.ifCond .le 42, 3) := by decide +kernel
theorem dX4_parted_32 : decode cX4_parted 32 = .ok (.iload 5, 2) := by decide +kernel
theorem dX4_parted_34 : decode cX4_parted 34 = .ok (.iload 6, 2) := by decide +kernel
theorem dX4_parted_36 : decode cX4_parted 36 = .ok (.invokestatic 21, 3) := by decide +kernel
theorem dX4_parted_39 : decode cX4_parted 39 = .ok (.ifCond .eq 26, 3) := by decide +kernel
theorem dX4_parted_42 : decode cX4_parted 42 = .ok (.aload_n 0, 1) := by decide +kernel
theorem dX4_parted_43 : decode cX4_parted 43 = .ok (.iload_n 1, 1) := by decide +kernel
theorem dX4_parted_44 : decode cX4_parted 44 = .ok (.iload_n 2, 1) := by decide +kernel
theorem dX4_parted_45 : decode cX4_parted 45 = .ok (.iload_n 3, 1) := by decide +kernel
theorem dX4_parted_46 : decode cX4_parted 46 = .ok (.iconst 1, 1) := by decide +kernel
theorem dX4_parted_47 : decode cX4_parted 47 = .ok (.iload 6, 2) := by decide +kernel
theorem dX4_parted_49 : decode cX4_parted 49 = .ok (.ishl, 1) := by decide +kernel
theorem dX4_parted_50 : decode cX4_parted 50 = .ok (.iconst (-1), 1) := by decide +kernel
theorem dX4_parted_51 : decode cX4_parted 51 = .ok (.ixor, 1) := by decide +kernel
theorem dX4_parted_52 : decode cX4_parted 52 = .ok (.iand, 1) := by decide +kernel
theorem dX4_parted_53 : decode cX4_parted 53 = .ok (.iload 4, 2) := by decide +kernel
theorem dX4_parted_55 : decode cX4_parted 55 = .ok (.iconst 1, 1) := by decide +kernel
theorem dX4_parted_56 : decode cX4_parted 56 = .ok (.isub, 1) := by decide +kernel
theorem dX4_parted_57 : decode cX4_parted 57 = .ok (.invokevirtual 36, 3) := by decide +kernel
theorem dX4_parted_60 : decode cX4_parted 60 = .ok (.ifCond .eq 5, 3) := by decide +kernel
theorem dX4_parted_63 : decode cX4_parted 63 = .ok (.iconst 1, 1) := by decide +kernel
theorem dX4_parted_64 : decode cX4_parted 64 = .ok (.ireturn, 1) := by decide +kernel
theorem dX4_parted_65 : decode cX4_parted 65 = .ok (.iinc 6 1, 3) := by decide +kernel
theorem dX4_parted_68 : decode cX4_parted 68 = .ok (.goto (-48), 3) := by decide +kernel
theorem dX4_parted_71 : decode cX4_parted 71 = .ok (.iconst 0, 1) := by decide +kernel
theorem dX4_parted_72 : decode cX4_parted 72 = .ok (.ireturn, 1) := by decide +kernel
theorem dX4_between_0 : decode cX4_between 0 = .ok (.iconst 1, 1) := by decide +kernel
theorem dX4_between_1 : decode cX4_between 1 = .ok (.iload_n 1, 1) := by decide +kernel
theorem dX4_between_2 : decode cX4_between 2 = .ok (.ishl, 1) := by decide +kernel
theorem dX4_between_3 : decode cX4_between 3 = .ok (.istore 4, 2) := by decide +kernel
theorem dX4_between_5 : decode cX4_between 5 = .ok (.iconst 0, 1) := by decide +kernel
theorem dX4_between_6 : decode cX4_between 6 = .ok (.istore 5, 2) := by decide +kernel
theorem dX4_between_8 : decode cX4_between 8 = .ok (.iload 5, 2) := by decide +kernel
theorem dX4_between_10 : decode cX4_between 10 = .ok (.bipush 29, 2) := by decide +kernel
theorem dX4_between_12 : decode cX4_between 12 = .ok (.if_icmp .ge 39, 3) := by decide +kernel
theorem dX4_between_15 : decode cX4_between 15 = .ok (.iload 4, 2) := by decide +kernel
theorem dX4_between_17 : decode cX4_between 17 = .ok (.iload_n 2, 1) := by decide +kernel
theorem dX4_between_18 : decode cX4_between 18 = .ok (.invokestatic 21, 3) := by decide +kernel
theorem dX4_between_21 : decode cX4_between 21 = .ok (.ifCond .ne 30, 3) := by decide +kernel
theorem dX4_between_24 : decode cX4_between 24 = .ok (.aload_n 0, 1) := by decide +kernel
theorem dX4_between_25 : decode cX4_between 25 = .ok (.getfield 9, 3) := by decide +kernel
theorem dX4_between_28 : decode cX4_between 28 = .ok (.iload 5, 2) := by decide +kernel
theorem dX4_between_30 : decode cX4_between 30 = .ok (.iload 4, 2) := by decide +kernel
theorem dX4_between_32 : decode cX4_between 32 = .ok (.iastore, 1) := by decide +kernel
theorem dX4_between_33 : decode cX4_between 33 = .ok (.iload 4, 2) := by decide +kernel
theorem dX4_between_35 : decode cX4_between 35 = .ok (.iload 4, 2) := by decide +kernel
theorem dX4_between_37 : decode cX4_between 37 = .ok (.invokestatic 15, 3) := by decide +kernel
theorem dX4_between_40 : decode cX4_between 40 = .ok (.iload_n 3, 1) := by decide +kernel
theorem dX4_between_41 : decode cX4_between 41 = .ok (.iand, 1) := by decide +kernel
theorem dX4_between_42 : decode cX4_between 42 = .ok (.ior, 1) := by decide +kernel
theorem dX4_between_43 : decode cX4_between 43 = .ok (.istore 4, 2) := by decide +kernel
theorem dX4_between_45 : decode cX4_between 45 = .ok (.iinc 5 1, 3) := by decide +kernel
theorem dX4_between_48 : decode cX4_between 48 = .ok (.goto (-40), 3) := by decide +kernel
theorem dX4_between_51 : decode cX4_between 51 = .ok (.iload 4, 2) := by decide +kernel
theorem dX4_between_53 : decode cX4_between 53 = .ok (.iload_n 2, 1) := by decide +kernel
theorem dX4_between_54 : decode cX4_between 54 = .ok (.invokestatic 21, 3) := by decide +kernel
theorem dX4_between_57 : decode cX4_between 57 = .ok (.ifCond .ne 5, 3) := by decide +kernel
theorem dX4_between_60 : decode cX4_between 60 = .ok (.iconst (-1), 1) := by decide +kernel
theorem dX4_between_61 : decode cX4_between 61 = .ok (.ireturn, 1) := by decide +kernel
theorem dX4_between_62 : decode cX4_between 62 = .ok (.iconst 0, 1) := by decide +kernel
theorem dX4_between_63 : decode cX4_between 63 = .ok (.istore 6, 2) := by decide +kernel
theorem dX4_between_65 : decode cX4_between 65 = .ok (.iload_n 2, 1) := by decide +kernel
theorem dX4_between_66 : decode cX4_between 66 = .ok (.istore 7, 2) := by decide +kernel
theorem dX4_between_68 : decode cX4_between 68 = .ok (.iload 5, 2) := by decide +kernel
theorem dX4_between_70 : decode cX4_between 70 = .ok (.iconst 1, 1) := by decide +kernel
theorem dX4_between_71 : decode cX4_between 71 = .ok (.isub, 1) := by decide +kernel
theorem dX4_between_72 : decode cX4_between 72 = .ok (.istore 8, 2) := by decide +kernel
theorem dX4_between_74 : decode cX4_between 74 = .ok (.iload 8, 2) := by decide +kernel
theorem dX4_between_76 : decode cX4_between 76 = .ok (.ifCond .le 46, 3) := by decide +kernel
theorem dX4_between_79 : decode cX4_between 79 = .ok (.iconst 1, 1) := by decide +kernel
theorem dX4_between_80 : decode cX4_between 80 = .ok (.iload 7, 2) := by decide +kernel
theorem dX4_between_82 : decode cX4_between 82 = .ok (.ishl, 1) := by decide +kernel
theorem dX4_between_83 : decode cX4_between 83 = .ok (.invokestatic 15, 3) := by decide +kernel
theorem dX4_between_86 : decode cX4_between 86 = .ok (.aload_n 0, 1) := by decide +kernel
theorem dX4_between_87 : decode cX4_between 87 = .ok (.getfield 9, 3) := by decide +kernel
theorem dX4_between_90 : decode cX4_between 90 = .ok (.iload 8, 2) := by decide +kernel
theorem dX4_between_92 : decode cX4_between 92 = .ok (.iaload, 1) := by decide +kernel
theorem dX4_between_93 : decode cX4_between 93 = .ok (.iand, 1) := by decide +kernel
theorem dX4_between_94 : decode cX4_between 94 = .ok (.iload_n 3, 1) := by decide +kernel
theorem dX4_between_95 : decode cX4_between 95 = .ok (.iand, 1) := by decide +kernel
theorem dX4_between_96 : decode cX4_between 96 = .ok (.istore 9, 2) := by decide +kernel
theorem dX4_between_98 : decode cX4_between 98 = .ok (.iload 6, 2) := by decide +kernel
theorem dX4_between_100 : decode cX4_between 100 = .ok (.iload 9, 2) := by decide +kernel
theorem dX4_between_102 : decode cX4_between 102 = .ok (.iload 9, 2) := by decide +kernel
theorem dX4_between_104 : decode cX4_between 104 = .ok (.ineg, 1) := by decide +kernel
theorem dX4_between_105 : decode cX4_between 105 = .ok (.iand, 1) := by decide +kernel
theorem dX4_between_106 : decode cX4_between 106 = .ok (.ior, 1) := by decide +kernel
theorem dX4_between_107 : decode cX4_between 107 = .ok (.istore 6, 2) := by decide +kernel
theorem dX4_between_109 : decode cX4_between 109 = .ok (.iload 9, 2) := by decide +kernel
theorem dX4_between_111 : decode cX4_between 111 = .ok (.invokestatic 44, 3) := by decide +kernel
theorem dX4_between_114 : decode cX4_between 114 = .ok (.istore 7, 2) := by decide +kernel
theorem dX4_between_116 : decode cX4_between 116 = .ok (.iinc 8 (-1), 3) := by decide +kernel
theorem dX4_between_119 : decode cX4_between 119 = .ok (.goto (-45), 3) := by decide +kernel
theorem dX4_between_122 : decode cX4_between 122 = .ok (.iload 6, 2) := by decide +kernel
theorem dX4_between_124 : decode cX4_between 124 = .ok (.ireturn, 1) := by decide +kernel
theorem dX5_written_0 : decode cX5_written 0 = .ok (.iload_n 0, 1) := by decide +kernel
theorem dX5_written_1 : decode cX5_written 1 = .ok (.iconst 5, 1) := by decide +kernel
theorem dX5_written_2 : decode cX5_written 2 = .ok (.imul, 1) := by decide +kernel
theorem dX5_written_3 : decode cX5_written 3 = .ok (.iload_n 1, 1) := by decide +kernel
theorem dX5_written_4 : decode cX5_written 4 = .ok (.iadd, 1) := by decide +kernel
theorem dX5_written_5 : decode cX5_written 5 = .ok (.bipush 30, 2) := by decide +kernel
theorem dX5_written_7 : decode cX5_written 7 = .ok (.imul, 1) := by decide +kernel
theorem dX5_written_8 : decode cX5_written 8 = .ok (.iload_n 2, 1) := by decide +kernel
theorem dX5_written_9 : decode cX5_written 9 = .ok (.iadd, 1) := by decide +kernel
theorem dX5_written_10 : decode cX5_written 10 = .ok (.bipush 10, 2) := by decide +kernel
theorem dX5_written_12 : decode cX5_written 12 = .ok (.imul, 1) := by decide +kernel
theorem dX5_written_13 : decode cX5_written 13 = .ok (.iload_n 3, 1) := by decide +kernel
theorem dX5_written_14 : decode cX5_written 14 = .ok (.iadd, 1) := by decide +kernel
theorem dX5_written_15 : decode cX5_written 15 = .ok (.ireturn, 1) := by decide +kernel
theorem dX5_waterIn_0 : decode cX5_waterIn 0 = .ok (.iload_n 0, 1) := by decide +kernel
theorem dX5_waterIn_1 : decode cX5_waterIn 1 = .ok (.bipush 10, 2) := by decide +kernel
theorem dX5_waterIn_3 : decode cX5_waterIn 3 = .ok (.irem, 1) := by decide +kernel
theorem dX5_waterIn_4 : decode cX5_waterIn 4 = .ok (.ireturn, 1) := by decide +kernel
theorem dX5_cellIn_0 : decode cX5_cellIn 0 = .ok (.iload_n 0, 1) := by decide +kernel
theorem dX5_cellIn_1 : decode cX5_cellIn 1 = .ok (.bipush 10, 2) := by decide +kernel
theorem dX5_cellIn_3 : decode cX5_cellIn 3 = .ok (.idiv, 1) := by decide +kernel
theorem dX5_cellIn_4 : decode cX5_cellIn 4 = .ok (.bipush 30, 2) := by decide +kernel
theorem dX5_cellIn_6 : decode cX5_cellIn 6 = .ok (.irem, 1) := by decide +kernel
theorem dX5_cellIn_7 : decode cX5_cellIn 7 = .ok (.ireturn, 1) := by decide +kernel
theorem dX5_personIn_0 : decode cX5_personIn 0 = .ok (.iload_n 0, 1) := by decide +kernel
theorem dX5_personIn_1 : decode cX5_personIn 1 = .ok (.bipush 10, 2) := by decide +kernel
theorem dX5_personIn_3 : decode cX5_personIn 3 = .ok (.idiv, 1) := by decide +kernel
theorem dX5_personIn_4 : decode cX5_personIn 4 = .ok (.bipush 30, 2) := by decide +kernel
theorem dX5_personIn_6 : decode cX5_personIn 6 = .ok (.idiv, 1) := by decide +kernel
theorem dX5_personIn_7 : decode cX5_personIn 7 = .ok (.iconst 5, 1) := by decide +kernel
theorem dX5_personIn_8 : decode cX5_personIn 8 = .ok (.irem, 1) := by decide +kernel
theorem dX5_personIn_9 : decode cX5_personIn 9 = .ok (.ireturn, 1) := by decide +kernel
theorem dX5_minuteIn_0 : decode cX5_minuteIn 0 = .ok (.iload_n 0, 1) := by decide +kernel
theorem dX5_minuteIn_1 : decode cX5_minuteIn 1 = .ok (.bipush 10, 2) := by decide +kernel
theorem dX5_minuteIn_3 : decode cX5_minuteIn 3 = .ok (.idiv, 1) := by decide +kernel
theorem dX5_minuteIn_4 : decode cX5_minuteIn 4 = .ok (.bipush 30, 2) := by decide +kernel
theorem dX5_minuteIn_6 : decode cX5_minuteIn 6 = .ok (.idiv, 1) := by decide +kernel
theorem dX5_minuteIn_7 : decode cX5_minuteIn 7 = .ok (.iconst 5, 1) := by decide +kernel
theorem dX5_minuteIn_8 : decode cX5_minuteIn 8 = .ok (.idiv, 1) := by decide +kernel
theorem dX5_minuteIn_9 : decode cX5_minuteIn 9 = .ok (.ireturn, 1) := by decide +kernel
theorem dX6_init_0 : decode cX6_init 0 = .ok (.aload_n 0, 1) := by decide +kernel
theorem dX6_init_1 : decode cX6_init 1 = .ok (.invokespecial 3, 3) := by decide +kernel
theorem dX6_init_4 : decode cX6_init 4 = .ok (.aload_n 0, 1) := by decide +kernel
theorem dX6_init_5 : decode cX6_init 5 = .ok (.iconst 0, 1) := by decide +kernel
theorem dX6_init_6 : decode cX6_init 6 = .ok (.putfield 9, 3) := by decide +kernel
theorem dX6_init_9 : decode cX6_init 9 = .ok (.aload_n 0, 1) := by decide +kernel
theorem dX6_init_10 : decode cX6_init 10 = .ok (.iconst (-1), 1) := by decide +kernel
theorem dX6_init_11 : decode cX6_init 11 = .ok (.putfield 15, 3) := by decide +kernel
theorem dX6_init_14 : decode cX6_init 14 = .ok (.aload_n 0, 1) := by decide +kernel
theorem dX6_init_15 : decode cX6_init 15 = .ok (.sipush 301, 3) := by decide +kernel
theorem dX6_init_18 : decode cX6_init 18 = .ok (.newarray .int, 2) := by decide +kernel
theorem dX6_init_20 : decode cX6_init 20 = .ok (.putfield 18, 3) := by decide +kernel
theorem dX6_init_23 : decode cX6_init 23 = .ok (.aload_n 0, 1) := by decide +kernel
theorem dX6_init_24 : decode cX6_init 24 = .ok (.sipush 301, 3) := by decide +kernel
theorem dX6_init_27 : decode cX6_init 27 = .ok (.newarray .int, 2) := by decide +kernel
theorem dX6_init_29 : decode cX6_init 29 = .ok (.putfield 22, 3) := by decide +kernel
theorem dX6_init_32 : decode cX6_init 32 = .ok (.aload_n 0, 1) := by decide +kernel
theorem dX6_init_33 : decode cX6_init 33 = .ok (.sipush 301, 3) := by decide +kernel
theorem dX6_init_36 : decode cX6_init 36 = .ok (.newarray .int, 2) := by decide +kernel
theorem dX6_init_38 : decode cX6_init 38 = .ok (.putfield 25, 3) := by decide +kernel
theorem dX6_init_41 : decode cX6_init 41 = .ok (.aload_n 0, 1) := by decide +kernel
theorem dX6_init_42 : decode cX6_init 42 = .ok (.iconst 0, 1) := by decide +kernel
theorem dX6_init_43 : decode cX6_init 43 = .ok (.putfield 28, 3) := by decide +kernel
theorem dX6_init_46 : decode cX6_init 46 = .ok (.aload_n 0, 1) := by decide +kernel
theorem dX6_init_47 : decode cX6_init 47 = .ok (.iconst 0, 1) := by decide +kernel
theorem dX6_init_48 : decode cX6_init 48 = .ok (.putfield 31, 3) := by decide +kernel
theorem dX6_init_51 : decode cX6_init 51 = .ok (.aload_n 0, 1) := by decide +kernel
theorem dX6_init_52 : decode cX6_init 52 = .ok (.bipush 43, 2) := by decide +kernel
theorem dX6_init_54 : decode cX6_init 54 = .ok (.putfield 36, 3) := by decide +kernel
theorem dX6_init_57 : decode cX6_init 57 = .ok (.aload_n 0, 1) := by decide +kernel
theorem dX6_init_58 : decode cX6_init 58 = .ok (.iconst 0, 1) := by decide +kernel
theorem dX6_init_59 : decode cX6_init 59 = .ok (.putfield 39, 3) := by decide +kernel
theorem dX6_init_62 : decode cX6_init 62 = .ok (.aload_n 0, 1) := by decide +kernel
theorem dX6_init_63 : decode cX6_init 63 = .ok (.iconst 0, 1) := by decide +kernel
theorem dX6_init_64 : decode cX6_init 64 = .ok (.putfield 42, 3) := by decide +kernel
theorem dX6_init_67 : decode cX6_init 67 = .ok (.aload_n 0, 1) := by decide +kernel
theorem dX6_init_68 : decode cX6_init 68 = .ok (.aload_n 1, 1) := by decide +kernel
theorem dX6_init_69 : decode cX6_init 69 = .ok (.putfield 46, 3) := by decide +kernel
theorem dX6_init_72 : decode cX6_init 72 = .ok (.return_, 1) := by decide +kernel
theorem dX6_read_0 : decode cX6_read 0 = .ok (.aload_n 0, 1) := by decide +kernel
theorem dX6_read_1 : decode cX6_read 1 = .ok (.aload_n 3, 1) := by decide +kernel
theorem dX6_read_2 : decode cX6_read 2 = .ok (.putfield 46, 3) := by decide +kernel
theorem dX6_read_5 : decode cX6_read 5 = .ok (.aload_n 0, 1) := by decide +kernel
theorem dX6_read_6 : decode cX6_read 6 = .ok (.getfield 46, 3) := by decide +kernel
theorem dX6_read_9 : decode cX6_read 9 = .ok (.invokevirtual 50, 3) := by decide +kernel
theorem dX6_read_12 : decode cX6_read 12 = .ok (.aload_n 0, 1) := by decide +kernel
theorem dX6_read_13 : decode cX6_read 13 = .ok (.iconst 0, 1) := by decide +kernel
theorem dX6_read_14 : decode cX6_read 14 = .ok (.putfield 9, 3) := by decide +kernel
theorem dX6_read_17 : decode cX6_read 17 = .ok (.aload_n 0, 1) := by decide +kernel
theorem dX6_read_18 : decode cX6_read 18 = .ok (.iconst (-1), 1) := by decide +kernel
theorem dX6_read_19 : decode cX6_read 19 = .ok (.putfield 15, 3) := by decide +kernel
theorem dX6_read_22 : decode cX6_read 22 = .ok (.aload_n 0, 1) := by decide +kernel
theorem dX6_read_23 : decode cX6_read 23 = .ok (.iconst 0, 1) := by decide +kernel
theorem dX6_read_24 : decode cX6_read 24 = .ok (.putfield 39, 3) := by decide +kernel
theorem dX6_read_27 : decode cX6_read 27 = .ok (.aload_n 0, 1) := by decide +kernel
theorem dX6_read_28 : decode cX6_read 28 = .ok (.aload_n 1, 1) := by decide +kernel
theorem dX6_read_29 : decode cX6_read 29 = .ok (.iload_n 2, 1) := by decide +kernel
theorem dX6_read_30 : decode cX6_read 30 = .ok (.aload_n 1, 1) := by decide +kernel
theorem dX6_read_31 : decode cX6_read 31 = .ok (.arraylength, 1) := by decide +kernel
theorem dX6_read_32 : decode cX6_read 32 = .ok (.sipush 300, 3) := by decide +kernel
theorem dX6_read_35 : decode cX6_read 35 = .ok (.invokestatic 55, 3) := by decide +kernel
theorem dX6_read_38 : decode cX6_read 38 = .ok (.invokestatic 55, 3) := by decide +kernel
theorem dX6_read_41 : decode cX6_read 41 = .ok (.invokevirtual 61, 3) := by decide +kernel
theorem dX6_read_44 : decode cX6_read 44 = .ok (.aload_n 0, 1) := by decide +kernel
theorem dX6_read_45 : decode cX6_read 45 = .ok (.iconst 0, 1) := by decide +kernel
theorem dX6_read_46 : decode cX6_read 46 = .ok (.putfield 31, 3) := by decide +kernel
theorem dX6_read_49 : decode cX6_read 49 = .ok (.aload_n 0, 1) := by decide +kernel
theorem dX6_read_50 : decode cX6_read 50 = .ok (.aload_n 0, 1) := by decide +kernel
theorem dX6_read_51 : decode cX6_read 51 = .ok (.getfield 18, 3) := by decide +kernel
theorem dX6_read_54 : decode cX6_read 54 = .ok (.iconst 0, 1) := by decide +kernel
theorem dX6_read_55 : decode cX6_read 55 = .ok (.iaload, 1) := by decide +kernel
theorem dX6_read_56 : decode cX6_read 56 = .ok (.putfield 36, 3) := by decide +kernel
theorem dX6_read_59 : decode cX6_read 59 = .ok (.iconst 0, 1) := by decide +kernel
theorem dX6_read_60 : decode cX6_read 60 = .ok (.istore 4, 2) := by decide +kernel
theorem dX6_read_62 : decode cX6_read 62 = .ok (.iload 4, 2) := by decide +kernel
theorem dX6_read_64 : decode cX6_read 64 = .ok (.sipush 300, 3) := by decide +kernel
theorem dX6_read_67 : decode cX6_read 67 = .ok (.if_icmp .ge 29, 3) := by decide +kernel
theorem dX6_read_70 : decode cX6_read 70 = .ok (.aload_n 0, 1) := by decide +kernel
theorem dX6_read_71 : decode cX6_read 71 = .ok (.getfield 36, 3) := by decide +kernel
theorem dX6_read_74 : decode cX6_read 74 = .ok (.bipush 43, 2) := by decide +kernel
theorem dX6_read_76 : decode cX6_read 76 = .ok (.if_icmp .eq 20, 3) := by decide +kernel
theorem dX6_read_79 : decode cX6_read 79 = .ok (.aload_n 0, 1) := by decide +kernel
theorem dX6_read_80 : decode cX6_read 80 = .ok (.getfield 9, 3) := by decide +kernel
theorem dX6_read_83 : decode cX6_read 83 = .ok (.ifCond .ne 13, 3) := by decide +kernel
theorem dX6_read_86 : decode cX6_read 86 = .ok (.aload_n 0, 1) := by decide +kernel
theorem dX6_read_87 : decode cX6_read 87 = .ok (.invokevirtual 65, 3) := by decide +kernel
theorem dX6_read_90 : decode cX6_read 90 = .ok (.iinc 4 1, 3) := by decide +kernel
theorem dX6_read_93 : decode cX6_read 93 = .ok (.goto (-31), 3) := by decide +kernel
theorem dX6_read_96 : decode cX6_read 96 = .ok (.return_, 1) := by decide +kernel
theorem dX6_cutTokens_0 : decode cX6_cutTokens 0 = .ok (.iconst 0, 1) := by decide +kernel
theorem dX6_cutTokens_1 : decode cX6_cutTokens 1 = .ok (.istore_n 3, 1) := by decide +kernel
theorem dX6_cutTokens_2 : decode cX6_cutTokens 2 = .ok (.aload_n 0, 1) := by decide +kernel
theorem dX6_cutTokens_3 : decode cX6_cutTokens 3 = .ok (.iconst 0, 1) := by decide +kernel
theorem dX6_cutTokens_4 : decode cX6_cutTokens 4 = .ok (.putfield 28, 3) := by decide +kernel
theorem dX6_cutTokens_7 : decode cX6_cutTokens 7 = .ok (.iload_n 3, 1) := by decide +kernel
theorem dX6_cutTokens_8 : decode cX6_cutTokens 8 = .ok (.iload_n 2, 1) := by decide +kernel
theorem dX6_cutTokens_9 : decode cX6_cutTokens 9 = .ok (.if_icmp .ge 171, 3) := by decide +kernel
theorem dX6_cutTokens_12 : decode cX6_cutTokens 12 = .ok (.aload_n 1, 1) := by decide +kernel
theorem dX6_cutTokens_13 : decode cX6_cutTokens 13 = .ok (.iload_n 3, 1) := by decide +kernel
theorem dX6_cutTokens_14 : decode cX6_cutTokens 14 = .ok (.iaload, 1) := by decide +kernel
theorem dX6_cutTokens_15 : decode cX6_cutTokens 15 = .ok (.istore 4, 2) := by decide +kernel
theorem dX6_cutTokens_17 : decode cX6_cutTokens 17 = .ok (.iload_n 3, 1) := by decide +kernel
theorem dX6_cutTokens_18 : decode cX6_cutTokens 18 = .ok (.iconst 1, 1) := by decide +kernel
theorem dX6_cutTokens_19 : decode cX6_cutTokens 19 = .ok (.iadd, 1) := by decide +kernel
theorem dX6_cutTokens_20 : decode cX6_cutTokens 20 = .ok (.istore 5, 2) := by decide +kernel
theorem dX6_cutTokens_22 : decode cX6_cutTokens 22 = .ok (.iload 4, 2) := by decide +kernel
theorem dX6_cutTokens_24 : decode cX6_cutTokens 24 = .ok (.invokestatic 68, 3) := by decide +kernel
theorem dX6_cutTokens_27 : decode cX6_cutTokens 27 = .ok (.ifCond .ne 11, 3) := by decide +kernel
theorem dX6_cutTokens_30 : decode cX6_cutTokens 30 = .ok (.iload 4, 2) := by decide +kernel
theorem dX6_cutTokens_32 : decode cX6_cutTokens 32 = .ok (.invokestatic 72, 3) := by decide +kernel
theorem dX6_cutTokens_35 : decode cX6_cutTokens 35 = .ok (.ifCond .eq 68, 3) := by decide +kernel
theorem dX6_cutTokens_38 : decode cX6_cutTokens 38 = .ok (.iload 5, 2) := by decide +kernel
theorem dX6_cutTokens_40 : decode cX6_cutTokens 40 = .ok (.iload_n 2, 1) := by decide +kernel
theorem dX6_cutTokens_41 : decode cX6_cutTokens 41 = .ok (.if_icmp .ge 21, 3) := by decide +kernel
theorem dX6_cutTokens_44 : decode cX6_cutTokens 44 = .ok (.iload 4, 2) := by decide +kernel
theorem dX6_cutTokens_46 : decode cX6_cutTokens 46 = .ok (.aload_n 1, 1) := by decide +kernel
theorem dX6_cutTokens_47 : decode cX6_cutTokens 47 = .ok (.iload 5, 2) := by decide +kernel
theorem dX6_cutTokens_49 : decode cX6_cutTokens 49 = .ok (.iaload, 1) := by decide +kernel
theorem dX6_cutTokens_50 : decode cX6_cutTokens 50 = .ok (.invokestatic 75, 3) := by decide +kernel
theorem dX6_cutTokens_53 : decode cX6_cutTokens 53 = .ok (.ifCond .eq 9, 3) := by decide +kernel
theorem dX6_cutTokens_56 : decode cX6_cutTokens 56 = .ok (.iinc 5 1, 3) := by decide +kernel
theorem dX6_cutTokens_59 : decode cX6_cutTokens 59 = .ok (.goto (-21), 3) := by decide +kernel
theorem dX6_cutTokens_62 : decode cX6_cutTokens 62 = .ok (.iload 4, 2) := by decide +kernel
theorem dX6_cutTokens_64 : decode cX6_cutTokens 64 = .ok (.invokestatic 68, 3) := by decide +kernel
theorem dX6_cutTokens_67 : decode cX6_cutTokens 67 = .ok (.ifCond .eq 20, 3) := by decide +kernel
theorem dX6_cutTokens_70 : decode cX6_cutTokens 70 = .ok (.aload_n 0, 1) := by decide +kernel
theorem dX6_cutTokens_71 : decode cX6_cutTokens 71 = .ok (.bipush 41, 2) := by decide +kernel
theorem dX6_cutTokens_73 : decode cX6_cutTokens 73 = .ok (.iload_n 3, 1) := by decide +kernel
theorem dX6_cutTokens_74 : decode cX6_cutTokens 74 = .ok (.aload_n 1, 1) := by decide +kernel
theorem dX6_cutTokens_75 : decode cX6_cutTokens 75 = .ok (.iload_n 3, 1) := by decide +kernel
theorem dX6_cutTokens_76 : decode cX6_cutTokens 76 = .ok (.iload 5, 2) := by decide +kernel
theorem dX6_cutTokens_78 : decode cX6_cutTokens 78 = .ok (.invokestatic 79, 3) := by decide +kernel
theorem dX6_cutTokens_81 : decode cX6_cutTokens 81 = .ok (.invokevirtual 83, 3) := by decide +kernel
theorem dX6_cutTokens_84 : decode cX6_cutTokens 84 = .ok (.goto 90, 3) := by decide +kernel
theorem dX6_cutTokens_87 : decode cX6_cutTokens 87 = .ok (.aload_n 0, 1) := by decide +kernel
theorem dX6_cutTokens_88 : decode cX6_cutTokens 88 = .ok (.aload_n 1, 1) := by decide +kernel
theorem dX6_cutTokens_89 : decode cX6_cutTokens 89 = .ok (.iload_n 3, 1) := by decide +kernel
theorem dX6_cutTokens_90 : decode cX6_cutTokens 90 = .ok (.iload 5, 2) := by decide +kernel
theorem dX6_cutTokens_92 : decode cX6_cutTokens 92 = .ok (.invokestatic 87, 3) := by decide +kernel
theorem dX6_cutTokens_95 : decode cX6_cutTokens 95 = .ok (.iload_n 3, 1) := by decide +kernel
theorem dX6_cutTokens_96 : decode cX6_cutTokens 96 = .ok (.iconst 0, 1) := by decide +kernel
theorem dX6_cutTokens_97 : decode cX6_cutTokens 97 = .ok (.invokevirtual 83, 3) := by decide +kernel
theorem dX6_cutTokens_100 : decode cX6_cutTokens 100 = .ok (.goto 74, 3) := by decide +kernel
theorem dX6_cutTokens_103 : decode cX6_cutTokens 103 = .ok (.iload 4, 2) := by decide +kernel
theorem dX6_cutTokens_105 : decode cX6_cutTokens 105 = .ok (.bipush 32, 2) := by decide +kernel
theorem dX6_cutTokens_107 : decode cX6_cutTokens 107 = .ok (.if_icmp .eq 67, 3) := by decide +kernel
theorem dX6_cutTokens_110 : decode cX6_cutTokens 110 = .ok (.iload 4, 2) := by decide +kernel
theorem dX6_cutTokens_112 : decode cX6_cutTokens 112 = .ok (.bipush 10, 2) := by decide +kernel
theorem dX6_cutTokens_114 : decode cX6_cutTokens 114 = .ok (.if_icmp .eq 60, 3) := by decide +kernel
theorem dX6_cutTokens_117 : decode cX6_cutTokens 117 = .ok (.iload 5, 2) := by decide +kernel
theorem dX6_cutTokens_119 : decode cX6_cutTokens 119 = .ok (.iload_n 2, 1) := by decide +kernel
theorem dX6_cutTokens_120 : decode cX6_cutTokens 120 = .ok (.if_icmp .ge 10, 3) := by decide +kernel
theorem dX6_cutTokens_123 : decode cX6_cutTokens 123 = .ok (.aload_n 1, 1) := by decide +kernel
theorem dX6_cutTokens_124 : decode cX6_cutTokens 124 = .ok (.iload 5, 2) := by decide +kernel
theorem dX6_cutTokens_126 : decode cX6_cutTokens 126 = .ok (.iaload, 1) := by decide +kernel
theorem dX6_cutTokens_127 : decode cX6_cutTokens 127 = .ok (.goto 4, 3) := by decide +kernel
theorem dX6_cutTokens_130 : decode cX6_cutTokens 130 = .ok (.iconst 0, 1) := by decide +kernel
theorem dX6_cutTokens_131 : decode cX6_cutTokens 131 = .ok (.istore 6, 2) := by decide +kernel
theorem dX6_cutTokens_133 : decode cX6_cutTokens 133 = .ok (.iload 4, 2) := by decide +kernel
theorem dX6_cutTokens_135 : decode cX6_cutTokens 135 = .ok (.iload 6, 2) := by decide +kernel
theorem dX6_cutTokens_137 : decode cX6_cutTokens 137 = .ok (.invokestatic 90, 3) := by decide +kernel
theorem dX6_cutTokens_140 : decode cX6_cutTokens 140 = .ok (.istore 7, 2) := by decide +kernel
theorem dX6_cutTokens_142 : decode cX6_cutTokens 142 = .ok (.aload_n 0, 1) := by decide +kernel
theorem dX6_cutTokens_143 : decode cX6_cutTokens 143 = .ok (.iload 7, 2) := by decide +kernel
theorem dX6_cutTokens_145 : decode cX6_cutTokens 145 = .ok (.iload_n 3, 1) := by decide +kernel
theorem dX6_cutTokens_146 : decode cX6_cutTokens 146 = .ok (.iconst 0, 1) := by decide +kernel
theorem dX6_cutTokens_147 : decode cX6_cutTokens 147 = .ok (.invokevirtual 83, 3) := by decide +kernel
theorem dX6_cutTokens_150 : decode cX6_cutTokens 150 = .ok (.iload 5, 2) := by decide +kernel
theorem dX6_cutTokens_152 : decode cX6_cutTokens 152 = .ok (.iload 7, 2) := by decide +kernel
theorem dX6_cutTokens_154 : decode cX6_cutTokens 154 = .ok (.bipush 39, 2) := by decide +kernel
theorem dX6_cutTokens_156 : decode cX6_cutTokens 156 = .ok (.if_icmp .lt 14, 3) := by decide +kernel
theorem dX6_cutTokens_159 : decode cX6_cutTokens 159 = .ok (.iload 7, 2) := by decide +kernel
theorem dX6_cutTokens_161 : decode cX6_cutTokens 161 = .ok (.bipush 40, 2) := by decide +kernel
theorem dX6_cutTokens_163 : decode cX6_cutTokens 163 = .ok (.if_icmp .gt 7, 3) := by decide +kernel
theorem dX6_cutTokens_166 : decode cX6_cutTokens 166 = .ok (.iconst 1, 1) := by decide +kernel
theorem dX6_cutTokens_167 : decode cX6_cutTokens 167 = .ok (.goto 4, 3) := by decide +kernel
theorem dX6_cutTokens_170 : decode cX6_cutTokens 170 = .ok (.iconst 0, 1) := by decide +kernel
theorem dX6_cutTokens_171 : decode cX6_cutTokens 171 = .ok (.iadd, 1) := by decide +kernel
theorem dX6_cutTokens_172 : decode cX6_cutTokens 172 = .ok (.istore 5, 2) := by decide +kernel
theorem dX6_cutTokens_174 : decode cX6_cutTokens 174 = .ok (.iload 5, 2) := by decide +kernel
theorem dX6_cutTokens_176 : decode cX6_cutTokens 176 = .ok (.istore_n 3, 1) := by decide +kernel
theorem dX6_cutTokens_177 : decode cX6_cutTokens 177 = .ok (.goto (-170), 3) := by decide +kernel
theorem dX6_cutTokens_180 : decode cX6_cutTokens 180 = .ok (.aload_n 0, 1) := by decide +kernel
theorem dX6_cutTokens_181 : decode cX6_cutTokens 181 = .ok (.bipush 43, 2) := by decide +kernel
theorem dX6_cutTokens_183 : decode cX6_cutTokens 183 = .ok (.iload_n 2, 1) := by decide +kernel
theorem dX6_cutTokens_184 : decode cX6_cutTokens 184 = .ok (.iconst 0, 1) := by decide +kernel
theorem dX6_cutTokens_185 : decode cX6_cutTokens 185 = .ok (.invokevirtual 83, 3) := by decide +kernel
theorem dX6_cutTokens_188 : decode cX6_cutTokens 188 = .ok (.return_, 1) := by decide +kernel
theorem dX6_addToken_0 : decode cX6_addToken 0 = .ok (.aload_n 0, 1) := by decide +kernel
theorem dX6_addToken_1 : decode cX6_addToken 1 = .ok (.getfield 28, 3) := by decide +kernel
theorem dX6_addToken_4 : decode cX6_addToken 4 = .ok (.aload_n 0, 1) := by decide +kernel
theorem dX6_addToken_5 : decode cX6_addToken 5 = .ok (.getfield 18, 3) := by decide +kernel
theorem dX6_addToken_8 : decode cX6_addToken 8 = .ok (.arraylength, 1) := by decide +kernel
theorem dX6_addToken_9 : decode cX6_addToken 9 = .ok (.if_icmp .ge 43, 3) := by decide +kernel
theorem dX6_addToken_12 : decode cX6_addToken 12 = .ok (.aload_n 0, 1) := by decide +kernel
theorem dX6_addToken_13 : decode cX6_addToken 13 = .ok (.getfield 18, 3) := by decide +kernel
theorem dX6_addToken_16 : decode cX6_addToken 16 = .ok (.aload_n 0, 1) := by decide +kernel
theorem dX6_addToken_17 : decode cX6_addToken 17 = .ok (.getfield 28, 3) := by decide +kernel
theorem dX6_addToken_20 : decode cX6_addToken 20 = .ok (.iload_n 1, 1) := by decide +kernel
theorem dX6_addToken_21 : decode cX6_addToken 21 = .ok (.iastore, 1) := by decide +kernel
theorem dX6_addToken_22 : decode cX6_addToken 22 = .ok (.aload_n 0, 1) := by decide +kernel
theorem dX6_addToken_23 : decode cX6_addToken 23 = .ok (.getfield 22, 3) := by decide +kernel
theorem dX6_addToken_26 : decode cX6_addToken 26 = .ok (.aload_n 0, 1) := by decide +kernel
theorem dX6_addToken_27 : decode cX6_addToken 27 = .ok (.getfield 28, 3) := by decide +kernel
theorem dX6_addToken_30 : decode cX6_addToken 30 = .ok (.iload_n 2, 1) := by decide +kernel
theorem dX6_addToken_31 : decode cX6_addToken 31 = .ok (.iastore, 1) := by decide +kernel
theorem dX6_addToken_32 : decode cX6_addToken 32 = .ok (.aload_n 0, 1) := by decide +kernel
theorem dX6_addToken_33 : decode cX6_addToken 33 = .ok (.getfield 25, 3) := by decide +kernel
theorem dX6_addToken_36 : decode cX6_addToken 36 = .ok (.aload_n 0, 1) := by decide +kernel
theorem dX6_addToken_37 : decode cX6_addToken 37 = .ok (.getfield 28, 3) := by decide +kernel
theorem dX6_addToken_40 : decode cX6_addToken 40 = .ok (.iload_n 3, 1) := by decide +kernel
theorem dX6_addToken_41 : decode cX6_addToken 41 = .ok (.iastore, 1) := by decide +kernel
theorem dX6_addToken_42 : decode cX6_addToken 42 = .ok (.aload_n 0, 1) := by decide +kernel
theorem dX6_addToken_43 : decode cX6_addToken 43 = .ok (.dup, 1) := by decide +kernel
theorem dX6_addToken_44 : decode cX6_addToken 44 = .ok (.getfield 28, 3) := by decide +kernel
theorem dX6_addToken_47 : decode cX6_addToken 47 = .ok (.iconst 1, 1) := by decide +kernel
theorem dX6_addToken_48 : decode cX6_addToken 48 = .ok (.iadd, 1) := by decide +kernel
theorem dX6_addToken_49 : decode cX6_addToken 49 = .ok (.putfield 28, 3) := by decide +kernel
theorem dX6_addToken_52 : decode cX6_addToken 52 = .ok (.return_, 1) := by decide +kernel
theorem dX6_isDigit_0 : decode cX6_isDigit 0 = .ok (.iload_n 0, 1) := by decide +kernel
theorem dX6_isDigit_1 : decode cX6_isDigit 1 = .ok (.bipush 48, 2) := by decide +kernel
theorem dX6_isDigit_3 : decode cX6_isDigit 3 = .ok (.if_icmp .lt 13, 3) := by decide +kernel
theorem dX6_isDigit_6 : decode cX6_isDigit 6 = .ok (.iload_n 0, 1) := by decide +kernel
theorem dX6_isDigit_7 : decode cX6_isDigit 7 = .ok (.bipush 57, 2) := by decide +kernel
theorem dX6_isDigit_9 : decode cX6_isDigit 9 = .ok (.if_icmp .gt 7, 3) := by decide +kernel
theorem dX6_isDigit_12 : decode cX6_isDigit 12 = .ok (.iconst 1, 1) := by decide +kernel
theorem dX6_isDigit_13 : decode cX6_isDigit 13 = .ok (.goto 4, 3) := by decide +kernel
theorem dX6_isDigit_16 : decode cX6_isDigit 16 = .ok (.iconst 0, 1) := by decide +kernel
theorem dX6_isDigit_17 : decode cX6_isDigit 17 = .ok (.ireturn, 1) := by decide +kernel
theorem dX6_isLetter_0 : decode cX6_isLetter 0 = .ok (.iload_n 0, 1) := by decide +kernel
theorem dX6_isLetter_1 : decode cX6_isLetter 1 = .ok (.bipush 97, 2) := by decide +kernel
theorem dX6_isLetter_3 : decode cX6_isLetter 3 = .ok (.if_icmp .lt 9, 3) := by decide +kernel
theorem dX6_isLetter_6 : decode cX6_isLetter 6 = .ok (.iload_n 0, 1) := by decide +kernel
theorem dX6_isLetter_7 : decode cX6_isLetter 7 = .ok (.bipush 122, 2) := by decide +kernel
theorem dX6_isLetter_9 : decode cX6_isLetter 9 = .ok (.if_icmp .le 15, 3) := by decide +kernel
theorem dX6_isLetter_12 : decode cX6_isLetter 12 = .ok (.iload_n 0, 1) := by decide +kernel
theorem dX6_isLetter_13 : decode cX6_isLetter 13 = .ok (.bipush 65, 2) := by decide +kernel
theorem dX6_isLetter_15 : decode cX6_isLetter 15 = .ok (.if_icmp .lt 13, 3) := by decide +kernel
theorem dX6_isLetter_18 : decode cX6_isLetter 18 = .ok (.iload_n 0, 1) := by decide +kernel
theorem dX6_isLetter_19 : decode cX6_isLetter 19 = .ok (.bipush 90, 2) := by decide +kernel
theorem dX6_isLetter_21 : decode cX6_isLetter 21 = .ok (.if_icmp .gt 7, 3) := by decide +kernel
theorem dX6_isLetter_24 : decode cX6_isLetter 24 = .ok (.iconst 1, 1) := by decide +kernel
theorem dX6_isLetter_25 : decode cX6_isLetter 25 = .ok (.goto 4, 3) := by decide +kernel
theorem dX6_isLetter_28 : decode cX6_isLetter 28 = .ok (.iconst 0, 1) := by decide +kernel
theorem dX6_isLetter_29 : decode cX6_isLetter 29 = .ok (.ireturn, 1) := by decide +kernel
theorem dX6_isAlike_0 : decode cX6_isAlike 0 = .ok (.iload_n 0, 1) := by decide +kernel
theorem dX6_isAlike_1 : decode cX6_isAlike 1 = .ok (.invokestatic 68, 3) := by decide +kernel
theorem dX6_isAlike_4 : decode cX6_isAlike 4 = .ok (.ifCond .eq 10, 3) := by decide +kernel
theorem dX6_isAlike_7 : decode cX6_isAlike 7 = .ok (.iload_n 1, 1) := by decide +kernel
theorem dX6_isAlike_8 : decode cX6_isAlike 8 = .ok (.invokestatic 68, 3) := by decide +kernel
theorem dX6_isAlike_11 : decode cX6_isAlike 11 = .ok (.ifCond .ne 17, 3) := by decide +kernel
theorem dX6_isAlike_14 : decode cX6_isAlike 14 = .ok (.iload_n 0, 1) := by decide +kernel
theorem dX6_isAlike_15 : decode cX6_isAlike 15 = .ok (.invokestatic 72, 3) := by decide +kernel
theorem dX6_isAlike_18 : decode cX6_isAlike 18 = .ok (.ifCond .eq 14, 3) := by decide +kernel
theorem dX6_isAlike_21 : decode cX6_isAlike 21 = .ok (.iload_n 1, 1) := by decide +kernel
theorem dX6_isAlike_22 : decode cX6_isAlike 22 = .ok (.invokestatic 72, 3) := by decide +kernel
theorem dX6_isAlike_25 : decode cX6_isAlike 25 = .ok (.ifCond .eq 7, 3) := by decide +kernel
theorem dX6_isAlike_28 : decode cX6_isAlike 28 = .ok (.iconst 1, 1) := by decide +kernel
theorem dX6_isAlike_29 : decode cX6_isAlike 29 = .ok (.goto 4, 3) := by decide +kernel
theorem dX6_isAlike_32 : decode cX6_isAlike 32 = .ok (.iconst 0, 1) := by decide +kernel
theorem dX6_isAlike_33 : decode cX6_isAlike 33 = .ok (.ireturn, 1) := by decide +kernel
theorem dX6_numberOf_0 : decode cX6_numberOf 0 = .ok (.iconst 0, 1) := by decide +kernel
theorem dX6_numberOf_1 : decode cX6_numberOf 1 = .ok (.istore_n 3, 1) := by decide +kernel
theorem dX6_numberOf_2 : decode cX6_numberOf 2 = .ok (.iload_n 1, 1) := by decide +kernel
theorem dX6_numberOf_3 : decode cX6_numberOf 3 = .ok (.istore 4, 2) := by decide +kernel
theorem dX6_numberOf_5 : decode cX6_numberOf 5 = .ok (.iload 4, 2) := by decide +kernel
theorem dX6_numberOf_7 : decode cX6_numberOf 7 = .ok (.iload_n 2, 1) := by decide +kernel
theorem dX6_numberOf_8 : decode cX6_numberOf 8 = .ok (.if_icmp .ge 28, 3) := by decide +kernel
theorem dX6_numberOf_11 : decode cX6_numberOf 11 = .ok (.sipush 10000, 3) := by decide +kernel
theorem dX6_numberOf_14 : decode cX6_numberOf 14 = .ok (.iload_n 3, 1) := by decide +kernel
theorem dX6_numberOf_15 : decode cX6_numberOf 15 = .ok (.bipush 10, 2) := by decide +kernel
theorem dX6_numberOf_17 : decode cX6_numberOf 17 = .ok (.imul, 1) := by decide +kernel
theorem dX6_numberOf_18 : decode cX6_numberOf 18 = .ok (.aload_n 0, 1) := by decide +kernel
theorem dX6_numberOf_19 : decode cX6_numberOf 19 = .ok (.iload 4, 2) := by decide +kernel
theorem dX6_numberOf_21 : decode cX6_numberOf 21 = .ok (.iaload, 1) := by decide +kernel
theorem dX6_numberOf_22 : decode cX6_numberOf 22 = .ok (.iadd, 1) := by decide +kernel
theorem dX6_numberOf_23 : decode cX6_numberOf 23 = .ok (.bipush 48, 2) := by decide +kernel
theorem dX6_numberOf_25 : decode cX6_numberOf 25 = .ok (.isub, 1) := by decide +kernel
theorem dX6_numberOf_26 : decode cX6_numberOf 26 = .ok (.invokestatic 55, 3) := by decide +kernel
theorem dX6_numberOf_29 : decode cX6_numberOf 29 = .ok (.istore_n 3, 1) := by decide +kernel
theorem dX6_numberOf_30 : decode cX6_numberOf 30 = .ok (.iinc 4 1, 3) := by decide +kernel
theorem dX6_numberOf_33 : decode cX6_numberOf 33 = .ok (.goto (-28), 3) := by decide +kernel
theorem dX6_numberOf_36 : decode cX6_numberOf 36 = .ok (.iload_n 3, 1) := by decide +kernel
theorem dX6_numberOf_37 : decode cX6_numberOf 37 = .ok (.ireturn, 1) := by decide +kernel
theorem dX6_wordKind_0 : decode cX6_wordKind 0 = .ok (.iconst 0, 1) := by decide +kernel
theorem dX6_wordKind_1 : decode cX6_wordKind 1 = .ok (.istore_n 3, 1) := by decide +kernel
theorem dX6_wordKind_2 : decode cX6_wordKind 2 = .ok (.iload_n 1, 1) := by decide +kernel
theorem dX6_wordKind_3 : decode cX6_wordKind 3 = .ok (.istore 4, 2) := by decide +kernel
theorem dX6_wordKind_5 : decode cX6_wordKind 5 = .ok (.iconst 0, 1) := by decide +kernel
theorem dX6_wordKind_6 : decode cX6_wordKind 6 = .ok (.istore 5, 2) := by decide +kernel
theorem dX6_wordKind_8 : decode cX6_wordKind 8 = .ok (.iload 5, 2) := by decide +kernel
theorem dX6_wordKind_10 : decode cX6_wordKind 10 = .ok (.ldc 93, 2) := by decide +kernel
theorem dX6_wordKind_12 : decode cX6_wordKind 12 = .ok (.invokevirtual 95, 3) := by decide +kernel
theorem dX6_wordKind_15 : decode cX6_wordKind 15 = .ok (.if_icmp .ge 72, 3) := by decide +kernel
theorem dX6_wordKind_18 : decode cX6_wordKind 18 = .ok (.ldc 93, 2) := by decide +kernel
theorem dX6_wordKind_20 : decode cX6_wordKind 20 = .ok (.iload 5, 2) := by decide +kernel
theorem dX6_wordKind_22 : decode cX6_wordKind 22 = .ok (.invokevirtual 101, 3) := by decide +kernel
theorem dX6_wordKind_25 : decode cX6_wordKind 25 = .ok (.istore 6, 2) := by decide +kernel
theorem dX6_wordKind_27 : decode cX6_wordKind 27 = .ok (.iload 6, 2) := by decide +kernel
theorem dX6_wordKind_29 : decode cX6_wordKind 29 = .ok (.bipush 32, 2) := by decide +kernel
theorem dX6_wordKind_31 : decode cX6_wordKind 31 = .ok (.if_icmp .ne 20, 3) := by decide +kernel
theorem dX6_wordKind_34 : decode cX6_wordKind 34 = .ok (.iload 4, 2) := by decide +kernel
theorem dX6_wordKind_36 : decode cX6_wordKind 36 = .ok (.iload_n 2, 1) := by decide +kernel
theorem dX6_wordKind_37 : decode cX6_wordKind 37 = .ok (.if_icmp .ne 5, 3) := by decide +kernel
theorem dX6_wordKind_40 : decode cX6_wordKind 40 = .ok (.iload_n 3, 1) := by decide +kernel
theorem dX6_wordKind_41 : decode cX6_wordKind 41 = .ok (.ireturn, 1) := by decide +kernel
theorem dX6_wordKind_42 : decode cX6_wordKind 42 = .ok (.iinc 3 1, 3) := by decide +kernel
theorem dX6_wordKind_45 : decode cX6_wordKind 45 = .ok (.iload_n 1, 1) := by decide +kernel
theorem dX6_wordKind_46 : decode cX6_wordKind 46 = .ok (.istore 4, 2) := by decide +kernel
theorem dX6_wordKind_48 : decode cX6_wordKind 48 = .ok (.goto 33, 3) := by decide +kernel
theorem dX6_wordKind_51 : decode cX6_wordKind 51 = .ok (.iload 4, 2) := by decide +kernel
theorem dX6_wordKind_53 : decode cX6_wordKind 53 = .ok (.iconst (-1), 1) := by decide +kernel
theorem dX6_wordKind_54 : decode cX6_wordKind 54 = .ok (.if_icmp .eq 24, 3) := by decide +kernel
theorem dX6_wordKind_57 : decode cX6_wordKind 57 = .ok (.iload 4, 2) := by decide +kernel
theorem dX6_wordKind_59 : decode cX6_wordKind 59 = .ok (.iload_n 2, 1) := by decide +kernel
theorem dX6_wordKind_60 : decode cX6_wordKind 60 = .ok (.if_icmp .ge 18, 3) := by decide +kernel
theorem dX6_wordKind_63 : decode cX6_wordKind 63 = .ok (.aload_n 0, 1) := by decide +kernel
theorem dX6_wordKind_64 : decode cX6_wordKind 64 = .ok (.iload 4, 2) := by decide +kernel
theorem dX6_wordKind_66 : decode cX6_wordKind 66 = .ok (.iaload, 1) := by decide +kernel
theorem dX6_wordKind_67 : decode cX6_wordKind 67 = .ok (.iload 6, 2) := by decide +kernel
theorem dX6_wordKind_69 : decode cX6_wordKind 69 = .ok (.if_icmp .ne 9, 3) := by decide +kernel
theorem dX6_wordKind_72 : decode cX6_wordKind 72 = .ok (.iinc 4 1, 3) := by decide +kernel
theorem dX6_wordKind_75 : decode cX6_wordKind 75 = .ok (.goto 6, 3) := by decide +kernel
theorem dX6_wordKind_78 : decode cX6_wordKind 78 = .ok (.iconst (-1), 1) := by decide +kernel
theorem dX6_wordKind_79 : decode cX6_wordKind 79 = .ok (.istore 4, 2) := by decide +kernel
theorem dX6_wordKind_81 : decode cX6_wordKind 81 = .ok (.iinc 5 1, 3) := by decide +kernel
theorem dX6_wordKind_84 : decode cX6_wordKind 84 = .ok (.goto (-76), 3) := by decide +kernel
theorem dX6_wordKind_87 : decode cX6_wordKind 87 = .ok (.bipush 42, 2) := by decide +kernel
theorem dX6_wordKind_89 : decode cX6_wordKind 89 = .ok (.ireturn, 1) := by decide +kernel
theorem dX6_signKind_0 : decode cX6_signKind 0 = .ok (.iload_n 1, 1) := by decide +kernel
theorem dX6_signKind_1 : decode cX6_signKind 1 = .ok (.bipush 61, 2) := by decide +kernel
theorem dX6_signKind_3 : decode cX6_signKind 3 = .ok (.if_icmp .ne 29, 3) := by decide +kernel
theorem dX6_signKind_6 : decode cX6_signKind 6 = .ok (.iload_n 0, 1) := by decide +kernel
theorem dX6_signKind_7 : decode cX6_signKind 7 = .ok (.bipush 60, 2) := by decide +kernel
theorem dX6_signKind_9 : decode cX6_signKind 9 = .ok (.if_icmp .eq 9, 3) := by decide +kernel
theorem dX6_signKind_12 : decode cX6_signKind 12 = .ok (.iload_n 0, 1) := by decide +kernel
theorem dX6_signKind_13 : decode cX6_signKind 13 = .ok (.bipush 62, 2) := by decide +kernel
theorem dX6_signKind_15 : decode cX6_signKind 15 = .ok (.if_icmp .ne 17, 3) := by decide +kernel
theorem dX6_signKind_18 : decode cX6_signKind 18 = .ok (.iload_n 0, 1) := by decide +kernel
theorem dX6_signKind_19 : decode cX6_signKind 19 = .ok (.bipush 60, 2) := by decide +kernel
theorem dX6_signKind_21 : decode cX6_signKind 21 = .ok (.if_icmp .ne 8, 3) := by decide +kernel
theorem dX6_signKind_24 : decode cX6_signKind 24 = .ok (.bipush 39, 2) := by decide +kernel
theorem dX6_signKind_26 : decode cX6_signKind 26 = .ok (.goto 5, 3) := by decide +kernel
theorem dX6_signKind_29 : decode cX6_signKind 29 = .ok (.bipush 40, 2) := by decide +kernel
theorem dX6_signKind_31 : decode cX6_signKind 31 = .ok (.ireturn, 1) := by decide +kernel
theorem dX6_signKind_32 : decode cX6_signKind 32 = .ok (.iconst 0, 1) := by decide +kernel
theorem dX6_signKind_33 : decode cX6_signKind 33 = .ok (.istore_n 2, 1) := by decide +kernel
theorem dX6_signKind_34 : decode cX6_signKind 34 = .ok (.iload_n 2, 1) := by decide +kernel
theorem dX6_signKind_35 : decode cX6_signKind 35 = .ok (.ldc 105, 2) := by decide +kernel
theorem dX6_signKind_37 : decode cX6_signKind 37 = .ok (.invokevirtual 95, 3) := by decide +kernel
theorem dX6_signKind_40 : decode cX6_signKind 40 = .ok (.if_icmp .ge 24, 3) := by decide +kernel
theorem dX6_signKind_43 : decode cX6_signKind 43 = .ok (.ldc 105, 2) := by decide +kernel
theorem dX6_signKind_45 : decode cX6_signKind 45 = .ok (.iload_n 2, 1) := by decide +kernel
theorem dX6_signKind_46 : decode cX6_signKind 46 = .ok (.invokevirtual 101, 3) := by decide +kernel
theorem dX6_signKind_49 : decode cX6_signKind 49 = .ok (.iload_n 0, 1) := by decide +kernel
theorem dX6_signKind_50 : decode cX6_signKind 50 = .ok (.if_icmp .ne 8, 3) := by decide +kernel
theorem dX6_signKind_53 : decode cX6_signKind 53 = .ok (.bipush 28, 2) := by decide +kernel
theorem dX6_signKind_55 : decode cX6_signKind 55 = .ok (.iload_n 2, 1) := by decide +kernel
theorem dX6_signKind_56 : decode cX6_signKind 56 = .ok (.iadd, 1) := by decide +kernel
theorem dX6_signKind_57 : decode cX6_signKind 57 = .ok (.ireturn, 1) := by decide +kernel
theorem dX6_signKind_58 : decode cX6_signKind 58 = .ok (.iinc 2 1, 3) := by decide +kernel
theorem dX6_signKind_61 : decode cX6_signKind 61 = .ok (.goto (-27), 3) := by decide +kernel
theorem dX6_signKind_64 : decode cX6_signKind 64 = .ok (.bipush 42, 2) := by decide +kernel
theorem dX6_signKind_66 : decode cX6_signKind 66 = .ok (.ireturn, 1) := by decide +kernel
theorem dX6_blame_0 : decode cX6_blame 0 = .ok (.aload_n 0, 1) := by decide +kernel
theorem dX6_blame_1 : decode cX6_blame 1 = .ok (.getfield 9, 3) := by decide +kernel
theorem dX6_blame_4 : decode cX6_blame 4 = .ok (.ifCond .ne 27, 3) := by decide +kernel
theorem dX6_blame_7 : decode cX6_blame 7 = .ok (.aload_n 0, 1) := by decide +kernel
theorem dX6_blame_8 : decode cX6_blame 8 = .ok (.iload_n 1, 1) := by decide +kernel
theorem dX6_blame_9 : decode cX6_blame 9 = .ok (.putfield 9, 3) := by decide +kernel
theorem dX6_blame_12 : decode cX6_blame 12 = .ok (.aload_n 0, 1) := by decide +kernel
theorem dX6_blame_13 : decode cX6_blame 13 = .ok (.aload_n 0, 1) := by decide +kernel
theorem dX6_blame_14 : decode cX6_blame 14 = .ok (.getfield 22, 3) := by decide +kernel
theorem dX6_blame_17 : decode cX6_blame 17 = .ok (.aload_n 0, 1) := by decide +kernel
theorem dX6_blame_18 : decode cX6_blame 18 = .ok (.getfield 31, 3) := by decide +kernel
theorem dX6_blame_21 : decode cX6_blame 21 = .ok (.iaload, 1) := by decide +kernel
theorem dX6_blame_22 : decode cX6_blame 22 = .ok (.putfield 15, 3) := by decide +kernel
theorem dX6_blame_25 : decode cX6_blame 25 = .ok (.aload_n 0, 1) := by decide +kernel
theorem dX6_blame_26 : decode cX6_blame 26 = .ok (.bipush 44, 2) := by decide +kernel
theorem dX6_blame_28 : decode cX6_blame 28 = .ok (.putfield 36, 3) := by decide +kernel
theorem dX6_blame_31 : decode cX6_blame 31 = .ok (.return_, 1) := by decide +kernel
theorem dX6_advance_0 : decode cX6_advance 0 = .ok (.aload_n 0, 1) := by decide +kernel
theorem dX6_advance_1 : decode cX6_advance 1 = .ok (.getfield 36, 3) := by decide +kernel
theorem dX6_advance_4 : decode cX6_advance 4 = .ok (.bipush 44, 2) := by decide +kernel
theorem dX6_advance_6 : decode cX6_advance 6 = .ok (.if_icmp .eq 39, 3) := by decide +kernel
theorem dX6_advance_9 : decode cX6_advance 9 = .ok (.aload_n 0, 1) := by decide +kernel
theorem dX6_advance_10 : decode cX6_advance 10 = .ok (.getfield 31, 3) := by decide +kernel
theorem dX6_advance_13 : decode cX6_advance 13 = .ok (.iconst 1, 1) := by decide +kernel
theorem dX6_advance_14 : decode cX6_advance 14 = .ok (.iadd, 1) := by decide +kernel
theorem dX6_advance_15 : decode cX6_advance 15 = .ok (.aload_n 0, 1) := by decide +kernel
theorem dX6_advance_16 : decode cX6_advance 16 = .ok (.getfield 28, 3) := by decide +kernel
theorem dX6_advance_19 : decode cX6_advance 19 = .ok (.if_icmp .ge 26, 3) := by decide +kernel
theorem dX6_advance_22 : decode cX6_advance 22 = .ok (.aload_n 0, 1) := by decide +kernel
theorem dX6_advance_23 : decode cX6_advance 23 = .ok (.dup, 1) := by decide +kernel
theorem dX6_advance_24 : decode cX6_advance 24 = .ok (.getfield 31, 3) := by decide +kernel
theorem dX6_advance_27 : decode cX6_advance 27 = .ok (.iconst 1, 1) := by decide +kernel
theorem dX6_advance_28 : decode cX6_advance 28 = .ok (.iadd, 1) := by decide +kernel
theorem dX6_advance_29 : decode cX6_advance 29 = .ok (.putfield 31, 3) := by decide +kernel
theorem dX6_advance_32 : decode cX6_advance 32 = .ok (.aload_n 0, 1) := by decide +kernel
theorem dX6_advance_33 : decode cX6_advance 33 = .ok (.aload_n 0, 1) := by decide +kernel
theorem dX6_advance_34 : decode cX6_advance 34 = .ok (.getfield 18, 3) := by decide +kernel
theorem dX6_advance_37 : decode cX6_advance 37 = .ok (.aload_n 0, 1) := by decide +kernel
theorem dX6_advance_38 : decode cX6_advance 38 = .ok (.getfield 31, 3) := by decide +kernel
theorem dX6_advance_41 : decode cX6_advance 41 = .ok (.iaload, 1) := by decide +kernel
theorem dX6_advance_42 : decode cX6_advance 42 = .ok (.putfield 36, 3) := by decide +kernel
theorem dX6_advance_45 : decode cX6_advance 45 = .ok (.return_, 1) := by decide +kernel
theorem dX6_readClause_0 : decode cX6_readClause 0 = .ok (.aload_n 0, 1) := by decide +kernel
theorem dX6_readClause_1 : decode cX6_readClause 1 = .ok (.getfield 36, 3) := by decide +kernel
theorem dX6_readClause_4 : decode cX6_readClause 4 = .ok (.istore_n 1, 1) := by decide +kernel
theorem dX6_readClause_5 : decode cX6_readClause 5 = .ok (.iload_n 1, 1) := by decide +kernel
theorem dX6_readClause_6 : decode cX6_readClause 6 = .ok (.ifCond .ne 14, 3) := by decide +kernel
theorem dX6_readClause_9 : decode cX6_readClause 9 = .ok (.aload_n 0, 1) := by decide +kernel
theorem dX6_readClause_10 : decode cX6_readClause 10 = .ok (.getfield 46, 3) := by decide +kernel
theorem dX6_readClause_13 : decode cX6_readClause 13 = .ok (.getfield 107, 3) := by decide +kernel
theorem dX6_readClause_16 : decode cX6_readClause 16 = .ok (.iconst (-1), 1) := by decide +kernel
theorem dX6_readClause_17 : decode cX6_readClause 17 = .ok (.if_icmp .ne 19, 3) := by decide +kernel
theorem dX6_readClause_20 : decode cX6_readClause 20 = .ok (.iload_n 1, 1) := by decide +kernel
theorem dX6_readClause_21 : decode cX6_readClause 21 = .ok (.iconst 1, 1) := by decide +kernel
theorem dX6_readClause_22 : decode cX6_readClause 22 = .ok (.if_icmp .ne 18, 3) := by decide +kernel
theorem dX6_readClause_25 : decode cX6_readClause 25 = .ok (.aload_n 0, 1) := by decide +kernel
theorem dX6_readClause_26 : decode cX6_readClause 26 = .ok (.getfield 46, 3) := by decide +kernel
theorem dX6_readClause_29 : decode cX6_readClause 29 = .ok (.getfield 110, 3) := by decide +kernel
theorem dX6_readClause_32 : decode cX6_readClause 32 = .ok (.iconst (-1), 1) := by decide +kernel
theorem dX6_readClause_33 : decode cX6_readClause 33 = .ok (.if_icmp .eq 7, 3) := by decide +kernel
theorem dX6_readClause_36 : decode cX6_readClause 36 = .ok (.iconst 1, 1) := by decide +kernel
theorem dX6_readClause_37 : decode cX6_readClause 37 = .ok (.goto 4, 3) := by decide +kernel
theorem dX6_readClause_40 : decode cX6_readClause 40 = .ok (.iconst 0, 1) := by decide +kernel
theorem dX6_readClause_41 : decode cX6_readClause 41 = .ok (.istore_n 2, 1) := by decide +kernel
theorem dX6_readClause_42 : decode cX6_readClause 42 = .ok (.iload_n 1, 1) := by decide +kernel
theorem dX6_readClause_43 : decode cX6_readClause 43 = .ok (.invokestatic 113, 3) := by decide +kernel
theorem dX6_readClause_46 : decode cX6_readClause 46 = .ok (.ifCond .ne 11, 3) := by decide +kernel
theorem dX6_readClause_49 : decode cX6_readClause 49 = .ok (.aload_n 0, 1) := by decide +kernel
theorem dX6_readClause_50 : decode cX6_readClause 50 = .ok (.iconst 1, 1) := by decide +kernel
theorem dX6_readClause_51 : decode cX6_readClause 51 = .ok (.invokevirtual 116, 3) := by decide +kernel
theorem dX6_readClause_54 : decode cX6_readClause 54 = .ok (.goto 58, 3) := by decide +kernel
theorem dX6_readClause_57 : decode cX6_readClause 57 = .ok (.iload_n 2, 1) := by decide +kernel
theorem dX6_readClause_58 : decode cX6_readClause 58 = .ok (.ifCond .eq 11, 3) := by decide +kernel
theorem dX6_readClause_61 : decode cX6_readClause 61 = .ok (.aload_n 0, 1) := by decide +kernel
theorem dX6_readClause_62 : decode cX6_readClause 62 = .ok (.iconst 4, 1) := by decide +kernel
theorem dX6_readClause_63 : decode cX6_readClause 63 = .ok (.invokevirtual 116, 3) := by decide +kernel
theorem dX6_readClause_66 : decode cX6_readClause 66 = .ok (.goto 46, 3) := by decide +kernel
theorem dX6_readClause_69 : decode cX6_readClause 69 = .ok (.aload_n 0, 1) := by decide +kernel
theorem dX6_readClause_70 : decode cX6_readClause 70 = .ok (.getfield 46, 3) := by decide +kernel
theorem dX6_readClause_73 : decode cX6_readClause 73 = .ok (.getfield 120, 3) := by decide +kernel
theorem dX6_readClause_76 : decode cX6_readClause 76 = .ok (.bipush 24, 2) := by decide +kernel
theorem dX6_readClause_78 : decode cX6_readClause 78 = .ok (.if_icmp .lt 12, 3) := by decide +kernel
theorem dX6_readClause_81 : decode cX6_readClause 81 = .ok (.aload_n 0, 1) := by decide +kernel
theorem dX6_readClause_82 : decode cX6_readClause 82 = .ok (.bipush 6, 2) := by decide +kernel
theorem dX6_readClause_84 : decode cX6_readClause 84 = .ok (.invokevirtual 116, 3) := by decide +kernel
theorem dX6_readClause_87 : decode cX6_readClause 87 = .ok (.goto 25, 3) := by decide +kernel
theorem dX6_readClause_90 : decode cX6_readClause 90 = .ok (.iload_n 1, 1) := by decide +kernel
theorem dX6_readClause_91 : decode cX6_readClause 91 = .ok (.ifCond .eq 8, 3) := by decide +kernel
theorem dX6_readClause_94 : decode cX6_readClause 94 = .ok (.iload_n 1, 1) := by decide +kernel
theorem dX6_readClause_95 : decode cX6_readClause 95 = .ok (.iconst 1, 1) := by decide +kernel
theorem dX6_readClause_96 : decode cX6_readClause 96 = .ok (.if_icmp .ne 11, 3) := by decide +kernel
theorem dX6_readClause_99 : decode cX6_readClause 99 = .ok (.aload_n 0, 1) := by decide +kernel
theorem dX6_readClause_100 : decode cX6_readClause 100 = .ok (.iload_n 1, 1) := by decide +kernel
theorem dX6_readClause_101 : decode cX6_readClause 101 = .ok (.invokevirtual 123, 3) := by decide +kernel
theorem dX6_readClause_104 : decode cX6_readClause 104 = .ok (.goto 8, 3) := by decide +kernel
theorem dX6_readClause_107 : decode cX6_readClause 107 = .ok (.aload_n 0, 1) := by decide +kernel
theorem dX6_readClause_108 : decode cX6_readClause 108 = .ok (.iload_n 1, 1) := by decide +kernel
theorem dX6_readClause_109 : decode cX6_readClause 109 = .ok (.invokevirtual 126, 3) := by decide +kernel
theorem dX6_readClause_112 : decode cX6_readClause 112 = .ok (.aload_n 0, 1) := by decide +kernel
theorem dX6_readClause_113 : decode cX6_readClause 113 = .ok (.bipush 38, 2) := by decide +kernel
theorem dX6_readClause_115 : decode cX6_readClause 115 = .ok (.invokevirtual 129, 3) := by decide +kernel
theorem dX6_readClause_118 : decode cX6_readClause 118 = .ok (.return_, 1) := by decide +kernel
theorem dX6_readLaw_0 : decode cX6_readLaw 0 = .ok (.aload_n 0, 1) := by decide +kernel
theorem dX6_readLaw_1 : decode cX6_readLaw 1 = .ok (.iload_n 1, 1) := by decide +kernel
theorem dX6_readLaw_2 : decode cX6_readLaw 2 = .ok (.iconst 1, 1) := by decide +kernel
theorem dX6_readLaw_3 : decode cX6_readLaw 3 = .ok (.if_icmp .ne 7, 3) := by decide +kernel
theorem dX6_readLaw_6 : decode cX6_readLaw 6 = .ok (.iconst 1, 1) := by decide +kernel
theorem dX6_readLaw_7 : decode cX6_readLaw 7 = .ok (.goto 4, 3) := by decide +kernel
theorem dX6_readLaw_10 : decode cX6_readLaw 10 = .ok (.iconst 0, 1) := by decide +kernel
theorem dX6_readLaw_11 : decode cX6_readLaw 11 = .ok (.putfield 42, 3) := by decide +kernel
theorem dX6_readLaw_14 : decode cX6_readLaw 14 = .ok (.aload_n 0, 1) := by decide +kernel
theorem dX6_readLaw_15 : decode cX6_readLaw 15 = .ok (.getfield 42, 3) := by decide +kernel
theorem dX6_readLaw_18 : decode cX6_readLaw 18 = .ok (.ifCond .eq 20, 3) := by decide +kernel
theorem dX6_readLaw_21 : decode cX6_readLaw 21 = .ok (.aload_n 0, 1) := by decide +kernel
theorem dX6_readLaw_22 : decode cX6_readLaw 22 = .ok (.getfield 46, 3) := by decide +kernel
theorem dX6_readLaw_25 : decode cX6_readLaw 25 = .ok (.aload_n 0, 1) := by decide +kernel
theorem dX6_readLaw_26 : decode cX6_readLaw 26 = .ok (.getfield 46, 3) := by decide +kernel
theorem dX6_readLaw_29 : decode cX6_readLaw 29 = .ok (.getfield 132, 3) := by decide +kernel
theorem dX6_readLaw_32 : decode cX6_readLaw 32 = .ok (.putfield 110, 3) := by decide +kernel
theorem dX6_readLaw_35 : decode cX6_readLaw 35 = .ok (.goto 17, 3) := by decide +kernel
theorem dX6_readLaw_38 : decode cX6_readLaw 38 = .ok (.aload_n 0, 1) := by decide +kernel
theorem dX6_readLaw_39 : decode cX6_readLaw 39 = .ok (.getfield 46, 3) := by decide +kernel
theorem dX6_readLaw_42 : decode cX6_readLaw 42 = .ok (.aload_n 0, 1) := by decide +kernel
theorem dX6_readLaw_43 : decode cX6_readLaw 43 = .ok (.getfield 46, 3) := by decide +kernel
theorem dX6_readLaw_46 : decode cX6_readLaw 46 = .ok (.getfield 132, 3) := by decide +kernel
theorem dX6_readLaw_49 : decode cX6_readLaw 49 = .ok (.putfield 107, 3) := by decide +kernel
theorem dX6_readLaw_52 : decode cX6_readLaw 52 = .ok (.aload_n 0, 1) := by decide +kernel
theorem dX6_readLaw_53 : decode cX6_readLaw 53 = .ok (.getfield 46, 3) := by decide +kernel
theorem dX6_readLaw_56 : decode cX6_readLaw 56 = .ok (.iload_n 1, 1) := by decide +kernel
theorem dX6_readLaw_57 : decode cX6_readLaw 57 = .ok (.iconst 0, 1) := by decide +kernel
theorem dX6_readLaw_58 : decode cX6_readLaw 58 = .ok (.iconst 0, 1) := by decide +kernel
theorem dX6_readLaw_59 : decode cX6_readLaw 59 = .ok (.invokevirtual 135, 3) := by decide +kernel
theorem dX6_readLaw_62 : decode cX6_readLaw 62 = .ok (.aload_n 0, 1) := by decide +kernel
theorem dX6_readLaw_63 : decode cX6_readLaw 63 = .ok (.invokevirtual 138, 3) := by decide +kernel
theorem dX6_readLaw_66 : decode cX6_readLaw 66 = .ok (.aload_n 0, 1) := by decide +kernel
theorem dX6_readLaw_67 : decode cX6_readLaw 67 = .ok (.invokevirtual 141, 3) := by decide +kernel
theorem dX6_readLaw_70 : decode cX6_readLaw 70 = .ok (.aload_n 0, 1) := by decide +kernel
theorem dX6_readLaw_71 : decode cX6_readLaw 71 = .ok (.getfield 46, 3) := by decide +kernel
theorem dX6_readLaw_74 : decode cX6_readLaw 74 = .ok (.bipush 48, 2) := by decide +kernel
theorem dX6_readLaw_76 : decode cX6_readLaw 76 = .ok (.iconst 0, 1) := by decide +kernel
theorem dX6_readLaw_77 : decode cX6_readLaw 77 = .ok (.invokevirtual 144, 3) := by decide +kernel
theorem dX6_readLaw_80 : decode cX6_readLaw 80 = .ok (.return_, 1) := by decide +kernel
theorem dX6_readDeed_0 : decode cX6_readDeed 0 = .ok (.iconst 0, 1) := by decide +kernel
theorem dX6_readDeed_1 : decode cX6_readDeed 1 = .ok (.istore_n 2, 1) := by decide +kernel
theorem dX6_readDeed_2 : decode cX6_readDeed 2 = .ok (.iconst 0, 1) := by decide +kernel
theorem dX6_readDeed_3 : decode cX6_readDeed 3 = .ok (.istore_n 3, 1) := by decide +kernel
theorem dX6_readDeed_4 : decode cX6_readDeed 4 = .ok (.aload_n 0, 1) := by decide +kernel
theorem dX6_readDeed_5 : decode cX6_readDeed 5 = .ok (.invokevirtual 138, 3) := by decide +kernel
theorem dX6_readDeed_8 : decode cX6_readDeed 8 = .ok (.iload_n 1, 1) := by decide +kernel
theorem dX6_readDeed_9 : decode cX6_readDeed 9 = .ok (.iconst 3, 1) := by decide +kernel
theorem dX6_readDeed_10 : decode cX6_readDeed 10 = .ok (.if_icmp .ne 28, 3) := by decide +kernel
theorem dX6_readDeed_13 : decode cX6_readDeed 13 = .ok (.aload_n 0, 1) := by decide +kernel
theorem dX6_readDeed_14 : decode cX6_readDeed 14 = .ok (.iconst 0, 1) := by decide +kernel
theorem dX6_readDeed_15 : decode cX6_readDeed 15 = .ok (.bipush 99, 2) := by decide +kernel
theorem dX6_readDeed_17 : decode cX6_readDeed 17 = .ok (.invokevirtual 148, 3) := by decide +kernel
theorem dX6_readDeed_20 : decode cX6_readDeed 20 = .ok (.istore_n 2, 1) := by decide +kernel
theorem dX6_readDeed_21 : decode cX6_readDeed 21 = .ok (.aload_n 0, 1) := by decide +kernel
theorem dX6_readDeed_22 : decode cX6_readDeed 22 = .ok (.bipush 21, 2) := by decide +kernel
theorem dX6_readDeed_24 : decode cX6_readDeed 24 = .ok (.invokevirtual 129, 3) := by decide +kernel
theorem dX6_readDeed_27 : decode cX6_readDeed 27 = .ok (.aload_n 0, 1) := by decide +kernel
theorem dX6_readDeed_28 : decode cX6_readDeed 28 = .ok (.iconst 0, 1) := by decide +kernel
theorem dX6_readDeed_29 : decode cX6_readDeed 29 = .ok (.bipush 29, 2) := by decide +kernel
theorem dX6_readDeed_31 : decode cX6_readDeed 31 = .ok (.invokevirtual 148, 3) := by decide +kernel
theorem dX6_readDeed_34 : decode cX6_readDeed 34 = .ok (.istore_n 3, 1) := by decide +kernel
theorem dX6_readDeed_35 : decode cX6_readDeed 35 = .ok (.goto 89, 3) := by decide +kernel
theorem dX6_readDeed_38 : decode cX6_readDeed 38 = .ok (.iload_n 1, 1) := by decide +kernel
theorem dX6_readDeed_39 : decode cX6_readDeed 39 = .ok (.iconst 5, 1) := by decide +kernel
theorem dX6_readDeed_40 : decode cX6_readDeed 40 = .ok (.if_icmp .ne 27, 3) := by decide +kernel
theorem dX6_readDeed_43 : decode cX6_readDeed 43 = .ok (.aload_n 0, 1) := by decide +kernel
theorem dX6_readDeed_44 : decode cX6_readDeed 44 = .ok (.iconst 0, 1) := by decide +kernel
theorem dX6_readDeed_45 : decode cX6_readDeed 45 = .ok (.iconst 4, 1) := by decide +kernel
theorem dX6_readDeed_46 : decode cX6_readDeed 46 = .ok (.invokevirtual 148, 3) := by decide +kernel
theorem dX6_readDeed_49 : decode cX6_readDeed 49 = .ok (.istore_n 2, 1) := by decide +kernel
theorem dX6_readDeed_50 : decode cX6_readDeed 50 = .ok (.aload_n 0, 1) := by decide +kernel
theorem dX6_readDeed_51 : decode cX6_readDeed 51 = .ok (.bipush 22, 2) := by decide +kernel
theorem dX6_readDeed_53 : decode cX6_readDeed 53 = .ok (.invokevirtual 129, 3) := by decide +kernel
theorem dX6_readDeed_56 : decode cX6_readDeed 56 = .ok (.aload_n 0, 1) := by decide +kernel
theorem dX6_readDeed_57 : decode cX6_readDeed 57 = .ok (.iconst 0, 1) := by decide +kernel
theorem dX6_readDeed_58 : decode cX6_readDeed 58 = .ok (.bipush 29, 2) := by decide +kernel
theorem dX6_readDeed_60 : decode cX6_readDeed 60 = .ok (.invokevirtual 148, 3) := by decide +kernel
theorem dX6_readDeed_63 : decode cX6_readDeed 63 = .ok (.istore_n 3, 1) := by decide +kernel
theorem dX6_readDeed_64 : decode cX6_readDeed 64 = .ok (.goto 60, 3) := by decide +kernel
theorem dX6_readDeed_67 : decode cX6_readDeed 67 = .ok (.iload_n 1, 1) := by decide +kernel
theorem dX6_readDeed_68 : decode cX6_readDeed 68 = .ok (.iconst 2, 1) := by decide +kernel
theorem dX6_readDeed_69 : decode cX6_readDeed 69 = .ok (.if_icmp .eq 8, 3) := by decide +kernel
theorem dX6_readDeed_72 : decode cX6_readDeed 72 = .ok (.iload_n 1, 1) := by decide +kernel
theorem dX6_readDeed_73 : decode cX6_readDeed 73 = .ok (.iconst 4, 1) := by decide +kernel
theorem dX6_readDeed_74 : decode cX6_readDeed 74 = .ok (.if_icmp .ne 14, 3) := by decide +kernel
theorem dX6_readDeed_77 : decode cX6_readDeed 77 = .ok (.aload_n 0, 1) := by decide +kernel
theorem dX6_readDeed_78 : decode cX6_readDeed 78 = .ok (.iconst 0, 1) := by decide +kernel
theorem dX6_readDeed_79 : decode cX6_readDeed 79 = .ok (.bipush 29, 2) := by decide +kernel
theorem dX6_readDeed_81 : decode cX6_readDeed 81 = .ok (.invokevirtual 148, 3) := by decide +kernel
theorem dX6_readDeed_84 : decode cX6_readDeed 84 = .ok (.istore_n 2, 1) := by decide +kernel
theorem dX6_readDeed_85 : decode cX6_readDeed 85 = .ok (.goto 39, 3) := by decide +kernel
theorem dX6_readDeed_88 : decode cX6_readDeed 88 = .ok (.iload_n 1, 1) := by decide +kernel
theorem dX6_readDeed_89 : decode cX6_readDeed 89 = .ok (.bipush 6, 2) := by decide +kernel
theorem dX6_readDeed_91 : decode cX6_readDeed 91 = .ok (.if_icmp .eq 9, 3) := by decide +kernel
theorem dX6_readDeed_94 : decode cX6_readDeed 94 = .ok (.iload_n 1, 1) := by decide +kernel
theorem dX6_readDeed_95 : decode cX6_readDeed 95 = .ok (.bipush 7, 2) := by decide +kernel
theorem dX6_readDeed_97 : decode cX6_readDeed 97 = .ok (.if_icmp .ne 13, 3) := by decide +kernel
theorem dX6_readDeed_100 : decode cX6_readDeed 100 = .ok (.aload_n 0, 1) := by decide +kernel
theorem dX6_readDeed_101 : decode cX6_readDeed 101 = .ok (.iconst 0, 1) := by decide +kernel
theorem dX6_readDeed_102 : decode cX6_readDeed 102 = .ok (.iconst 4, 1) := by decide +kernel
theorem dX6_readDeed_103 : decode cX6_readDeed 103 = .ok (.invokevirtual 148, 3) := by decide +kernel
theorem dX6_readDeed_106 : decode cX6_readDeed 106 = .ok (.istore_n 2, 1) := by decide +kernel
theorem dX6_readDeed_107 : decode cX6_readDeed 107 = .ok (.goto 17, 3) := by decide +kernel
theorem dX6_readDeed_110 : decode cX6_readDeed 110 = .ok (.iload_n 1, 1) := by decide +kernel
theorem dX6_readDeed_111 : decode cX6_readDeed 111 = .ok (.bipush 9, 2) := by decide +kernel
theorem dX6_readDeed_113 : decode cX6_readDeed 113 = .ok (.if_icmp .ne 11, 3) := by decide +kernel
theorem dX6_readDeed_116 : decode cX6_readDeed 116 = .ok (.aload_n 0, 1) := by decide +kernel
theorem dX6_readDeed_117 : decode cX6_readDeed 117 = .ok (.iconst 1, 1) := by decide +kernel
theorem dX6_readDeed_118 : decode cX6_readDeed 118 = .ok (.bipush 60, 2) := by decide +kernel
theorem dX6_readDeed_120 : decode cX6_readDeed 120 = .ok (.invokevirtual 148, 3) := by decide +kernel
theorem dX6_readDeed_123 : decode cX6_readDeed 123 = .ok (.istore_n 2, 1) := by decide +kernel
theorem dX6_readDeed_124 : decode cX6_readDeed 124 = .ok (.aload_n 0, 1) := by decide +kernel
theorem dX6_readDeed_125 : decode cX6_readDeed 125 = .ok (.getfield 46, 3) := by decide +kernel
theorem dX6_readDeed_128 : decode cX6_readDeed 128 = .ok (.iload_n 1, 1) := by decide +kernel
theorem dX6_readDeed_129 : decode cX6_readDeed 129 = .ok (.iload_n 2, 1) := by decide +kernel
theorem dX6_readDeed_130 : decode cX6_readDeed 130 = .ok (.iload_n 3, 1) := by decide +kernel
theorem dX6_readDeed_131 : decode cX6_readDeed 131 = .ok (.invokevirtual 135, 3) := by decide +kernel
theorem dX6_readDeed_134 : decode cX6_readDeed 134 = .ok (.return_, 1) := by decide +kernel
theorem dX6_expect_0 : decode cX6_expect 0 = .ok (.aload_n 0, 1) := by decide +kernel
theorem dX6_expect_1 : decode cX6_expect 1 = .ok (.getfield 36, 3) := by decide +kernel
theorem dX6_expect_4 : decode cX6_expect 4 = .ok (.iload_n 1, 1) := by decide +kernel
theorem dX6_expect_5 : decode cX6_expect 5 = .ok (.if_icmp .eq 8, 3) := by decide +kernel
theorem dX6_expect_8 : decode cX6_expect 8 = .ok (.aload_n 0, 1) := by decide +kernel
theorem dX6_expect_9 : decode cX6_expect 9 = .ok (.iconst 1, 1) := by decide +kernel
theorem dX6_expect_10 : decode cX6_expect 10 = .ok (.invokevirtual 116, 3) := by decide +kernel
theorem dX6_expect_13 : decode cX6_expect 13 = .ok (.aload_n 0, 1) := by decide +kernel
theorem dX6_expect_14 : decode cX6_expect 14 = .ok (.invokevirtual 138, 3) := by decide +kernel
theorem dX6_expect_17 : decode cX6_expect 17 = .ok (.return_, 1) := by decide +kernel
theorem dX6_numberWithin_0 : decode cX6_numberWithin 0 = .ok (.aload_n 0, 1) := by decide +kernel
theorem dX6_numberWithin_1 : decode cX6_numberWithin 1 = .ok (.getfield 25, 3) := by decide +kernel
theorem dX6_numberWithin_4 : decode cX6_numberWithin 4 = .ok (.aload_n 0, 1) := by decide +kernel
theorem dX6_numberWithin_5 : decode cX6_numberWithin 5 = .ok (.getfield 31, 3) := by decide +kernel
theorem dX6_numberWithin_8 : decode cX6_numberWithin 8 = .ok (.iaload, 1) := by decide +kernel
theorem dX6_numberWithin_9 : decode cX6_numberWithin 9 = .ok (.istore_n 3, 1) := by decide +kernel
theorem dX6_numberWithin_10 : decode cX6_numberWithin 10 = .ok (.aload_n 0, 1) := by decide +kernel
theorem dX6_numberWithin_11 : decode cX6_numberWithin 11 = .ok (.getfield 36, 3) := by decide +kernel
theorem dX6_numberWithin_14 : decode cX6_numberWithin 14 = .ok (.bipush 41, 2) := by decide +kernel
theorem dX6_numberWithin_16 : decode cX6_numberWithin 16 = .ok (.if_icmp .eq 11, 3) := by decide +kernel
theorem dX6_numberWithin_19 : decode cX6_numberWithin 19 = .ok (.aload_n 0, 1) := by decide +kernel
theorem dX6_numberWithin_20 : decode cX6_numberWithin 20 = .ok (.iconst 1, 1) := by decide +kernel
theorem dX6_numberWithin_21 : decode cX6_numberWithin 21 = .ok (.invokevirtual 116, 3) := by decide +kernel
theorem dX6_numberWithin_24 : decode cX6_numberWithin 24 = .ok (.goto 17, 3) := by decide +kernel
theorem dX6_numberWithin_27 : decode cX6_numberWithin 27 = .ok (.iload_n 3, 1) := by decide +kernel
theorem dX6_numberWithin_28 : decode cX6_numberWithin 28 = .ok (.iload_n 1, 1) := by decide +kernel
theorem dX6_numberWithin_29 : decode cX6_numberWithin 29 = .ok (.iload_n 2, 1) := by decide +kernel
theorem dX6_numberWithin_30 : decode cX6_numberWithin 30 = .ok (.invokestatic 151, 3) := by decide +kernel
theorem dX6_numberWithin_33 : decode cX6_numberWithin 33 = .ok (.ifCond .ne 8, 3) := by decide +kernel
theorem dX6_numberWithin_36 : decode cX6_numberWithin 36 = .ok (.aload_n 0, 1) := by decide +kernel
theorem dX6_numberWithin_37 : decode cX6_numberWithin 37 = .ok (.iconst 2, 1) := by decide +kernel
theorem dX6_numberWithin_38 : decode cX6_numberWithin 38 = .ok (.invokevirtual 116, 3) := by decide +kernel
theorem dX6_numberWithin_41 : decode cX6_numberWithin 41 = .ok (.aload_n 0, 1) := by decide +kernel
theorem dX6_numberWithin_42 : decode cX6_numberWithin 42 = .ok (.invokevirtual 138, 3) := by decide +kernel
theorem dX6_numberWithin_45 : decode cX6_numberWithin 45 = .ok (.iload_n 3, 1) := by decide +kernel
theorem dX6_numberWithin_46 : decode cX6_numberWithin 46 = .ok (.ireturn, 1) := by decide +kernel
theorem dX6_readSum_0 : decode cX6_readSum 0 = .ok (.aload_n 0, 1) := by decide +kernel
theorem dX6_readSum_1 : decode cX6_readSum 1 = .ok (.invokevirtual 155, 3) := by decide +kernel
theorem dX6_readSum_4 : decode cX6_readSum 4 = .ok (.iconst 0, 1) := by decide +kernel
theorem dX6_readSum_5 : decode cX6_readSum 5 = .ok (.istore_n 1, 1) := by decide +kernel
theorem dX6_readSum_6 : decode cX6_readSum 6 = .ok (.iload_n 1, 1) := by decide +kernel
theorem dX6_readSum_7 : decode cX6_readSum 7 = .ok (.sipush 300, 3) := by decide +kernel
theorem dX6_readSum_10 : decode cX6_readSum 10 = .ok (.if_icmp .ge 49, 3) := by decide +kernel
theorem dX6_readSum_13 : decode cX6_readSum 13 = .ok (.aload_n 0, 1) := by decide +kernel
theorem dX6_readSum_14 : decode cX6_readSum 14 = .ok (.getfield 36, 3) := by decide +kernel
theorem dX6_readSum_17 : decode cX6_readSum 17 = .ok (.bipush 32, 2) := by decide +kernel
theorem dX6_readSum_19 : decode cX6_readSum 19 = .ok (.if_icmp .eq 12, 3) := by decide +kernel
theorem dX6_readSum_22 : decode cX6_readSum 22 = .ok (.aload_n 0, 1) := by decide +kernel
theorem dX6_readSum_23 : decode cX6_readSum 23 = .ok (.getfield 36, 3) := by decide +kernel
theorem dX6_readSum_26 : decode cX6_readSum 26 = .ok (.bipush 33, 2) := by decide +kernel
theorem dX6_readSum_28 : decode cX6_readSum 28 = .ok (.if_icmp .ne 31, 3) := by decide +kernel
theorem dX6_readSum_31 : decode cX6_readSum 31 = .ok (.aload_n 0, 1) := by decide +kernel
theorem dX6_readSum_32 : decode cX6_readSum 32 = .ok (.getfield 36, 3) := by decide +kernel
theorem dX6_readSum_35 : decode cX6_readSum 35 = .ok (.istore_n 2, 1) := by decide +kernel
theorem dX6_readSum_36 : decode cX6_readSum 36 = .ok (.aload_n 0, 1) := by decide +kernel
theorem dX6_readSum_37 : decode cX6_readSum 37 = .ok (.invokevirtual 138, 3) := by decide +kernel
theorem dX6_readSum_40 : decode cX6_readSum 40 = .ok (.aload_n 0, 1) := by decide +kernel
theorem dX6_readSum_41 : decode cX6_readSum 41 = .ok (.invokevirtual 155, 3) := by decide +kernel
theorem dX6_readSum_44 : decode cX6_readSum 44 = .ok (.aload_n 0, 1) := by decide +kernel
theorem dX6_readSum_45 : decode cX6_readSum 45 = .ok (.getfield 46, 3) := by decide +kernel
theorem dX6_readSum_48 : decode cX6_readSum 48 = .ok (.iload_n 2, 1) := by decide +kernel
theorem dX6_readSum_49 : decode cX6_readSum 49 = .ok (.iconst 0, 1) := by decide +kernel
theorem dX6_readSum_50 : decode cX6_readSum 50 = .ok (.invokevirtual 144, 3) := by decide +kernel
theorem dX6_readSum_53 : decode cX6_readSum 53 = .ok (.iinc 1 1, 3) := by decide +kernel
theorem dX6_readSum_56 : decode cX6_readSum 56 = .ok (.goto (-50), 3) := by decide +kernel
theorem dX6_readSum_59 : decode cX6_readSum 59 = .ok (.return_, 1) := by decide +kernel
theorem dX6_readProduct_0 : decode cX6_readProduct 0 = .ok (.aload_n 0, 1) := by decide +kernel
theorem dX6_readProduct_1 : decode cX6_readProduct 1 = .ok (.invokevirtual 158, 3) := by decide +kernel
theorem dX6_readProduct_4 : decode cX6_readProduct 4 = .ok (.iconst 0, 1) := by decide +kernel
theorem dX6_readProduct_5 : decode cX6_readProduct 5 = .ok (.istore_n 1, 1) := by decide +kernel
theorem dX6_readProduct_6 : decode cX6_readProduct 6 = .ok (.iload_n 1, 1) := by decide +kernel
theorem dX6_readProduct_7 : decode cX6_readProduct 7 = .ok (.sipush 300, 3) := by decide +kernel
theorem dX6_readProduct_10 : decode cX6_readProduct 10 = .ok (.if_icmp .ge 49, 3) := by decide +kernel
theorem dX6_readProduct_13 : decode cX6_readProduct 13 = .ok (.aload_n 0, 1) := by decide +kernel
theorem dX6_readProduct_14 : decode cX6_readProduct 14 = .ok (.getfield 36, 3) := by decide +kernel
theorem dX6_readProduct_17 : decode cX6_readProduct 17 = .ok (.bipush 34, 2) := by decide +kernel
theorem dX6_readProduct_19 : decode cX6_readProduct 19 = .ok (.if_icmp .eq 12, 3) := by decide +kernel
theorem dX6_readProduct_22 : decode cX6_readProduct 22 = .ok (.aload_n 0, 1) := by decide +kernel
theorem dX6_readProduct_23 : decode cX6_readProduct 23 = .ok (.getfield 36, 3) := by decide +kernel
theorem dX6_readProduct_26 : decode cX6_readProduct 26 = .ok (.bipush 35, 2) := by decide +kernel
theorem dX6_readProduct_28 : decode cX6_readProduct 28 = .ok (.if_icmp .ne 31, 3) := by decide +kernel
theorem dX6_readProduct_31 : decode cX6_readProduct 31 = .ok (.aload_n 0, 1) := by decide +kernel
theorem dX6_readProduct_32 : decode cX6_readProduct 32 = .ok (.getfield 36, 3) := by decide +kernel
theorem dX6_readProduct_35 : decode cX6_readProduct 35 = .ok (.istore_n 2, 1) := by decide +kernel
theorem dX6_readProduct_36 : decode cX6_readProduct 36 = .ok (.aload_n 0, 1) := by decide +kernel
theorem dX6_readProduct_37 : decode cX6_readProduct 37 = .ok (.invokevirtual 138, 3) := by decide +kernel
theorem dX6_readProduct_40 : decode cX6_readProduct 40 = .ok (.aload_n 0, 1) := by decide +kernel
theorem dX6_readProduct_41 : decode cX6_readProduct 41 = .ok (.invokevirtual 158, 3) := by decide +kernel
theorem dX6_readProduct_44 : decode cX6_readProduct 44 = .ok (.aload_n 0, 1) := by decide +kernel
theorem dX6_readProduct_45 : decode cX6_readProduct 45 = .ok (.getfield 46, 3) := by decide +kernel
theorem dX6_readProduct_48 : decode cX6_readProduct 48 = .ok (.iload_n 2, 1) := by decide +kernel
theorem dX6_readProduct_49 : decode cX6_readProduct 49 = .ok (.iconst 0, 1) := by decide +kernel
theorem dX6_readProduct_50 : decode cX6_readProduct 50 = .ok (.invokevirtual 144, 3) := by decide +kernel
theorem dX6_readProduct_53 : decode cX6_readProduct 53 = .ok (.iinc 1 1, 3) := by decide +kernel
theorem dX6_readProduct_56 : decode cX6_readProduct 56 = .ok (.goto (-50), 3) := by decide +kernel
theorem dX6_readProduct_59 : decode cX6_readProduct 59 = .ok (.return_, 1) := by decide +kernel
theorem dX6_readOne_0 : decode cX6_readOne 0 = .ok (.aload_n 0, 1) := by decide +kernel
theorem dX6_readOne_1 : decode cX6_readOne 1 = .ok (.getfield 36, 3) := by decide +kernel
theorem dX6_readOne_4 : decode cX6_readOne 4 = .ok (.bipush 41, 2) := by decide +kernel
theorem dX6_readOne_6 : decode cX6_readOne 6 = .ok (.if_icmp .ne 23, 3) := by decide +kernel
theorem dX6_readOne_9 : decode cX6_readOne 9 = .ok (.aload_n 0, 1) := by decide +kernel
theorem dX6_readOne_10 : decode cX6_readOne 10 = .ok (.getfield 46, 3) := by decide +kernel
theorem dX6_readOne_13 : decode cX6_readOne 13 = .ok (.bipush 41, 2) := by decide +kernel
theorem dX6_readOne_15 : decode cX6_readOne 15 = .ok (.aload_n 0, 1) := by decide +kernel
theorem dX6_readOne_16 : decode cX6_readOne 16 = .ok (.iconst 0, 1) := by decide +kernel
theorem dX6_readOne_17 : decode cX6_readOne 17 = .ok (.sipush 9999, 3) := by decide +kernel
theorem dX6_readOne_20 : decode cX6_readOne 20 = .ok (.invokevirtual 148, 3) := by decide +kernel
theorem dX6_readOne_23 : decode cX6_readOne 23 = .ok (.invokevirtual 144, 3) := by decide +kernel
theorem dX6_readOne_26 : decode cX6_readOne 26 = .ok (.goto 39, 3) := by decide +kernel
theorem dX6_readOne_29 : decode cX6_readOne 29 = .ok (.aload_n 0, 1) := by decide +kernel
theorem dX6_readOne_30 : decode cX6_readOne 30 = .ok (.getfield 36, 3) := by decide +kernel
theorem dX6_readOne_33 : decode cX6_readOne 33 = .ok (.invokestatic 161, 3) := by decide +kernel
theorem dX6_readOne_36 : decode cX6_readOne 36 = .ok (.ifCond .eq 10, 3) := by decide +kernel
theorem dX6_readOne_39 : decode cX6_readOne 39 = .ok (.aload_n 0, 1) := by decide +kernel
theorem dX6_readOne_40 : decode cX6_readOne 40 = .ok (.invokevirtual 164, 3) := by decide +kernel
theorem dX6_readOne_43 : decode cX6_readOne 43 = .ok (.goto 22, 3) := by decide +kernel
theorem dX6_readOne_46 : decode cX6_readOne 46 = .ok (.aload_n 0, 1) := by decide +kernel
theorem dX6_readOne_47 : decode cX6_readOne 47 = .ok (.invokevirtual 167, 3) := by decide +kernel
theorem dX6_readOne_50 : decode cX6_readOne 50 = .ok (.ifCond .eq 10, 3) := by decide +kernel
theorem dX6_readOne_53 : decode cX6_readOne 53 = .ok (.aload_n 0, 1) := by decide +kernel
theorem dX6_readOne_54 : decode cX6_readOne 54 = .ok (.invokevirtual 171, 3) := by decide +kernel
theorem dX6_readOne_57 : decode cX6_readOne 57 = .ok (.goto 8, 3) := by decide +kernel
theorem dX6_readOne_60 : decode cX6_readOne 60 = .ok (.aload_n 0, 1) := by decide +kernel
theorem dX6_readOne_61 : decode cX6_readOne 61 = .ok (.iconst 1, 1) := by decide +kernel
theorem dX6_readOne_62 : decode cX6_readOne 62 = .ok (.invokevirtual 116, 3) := by decide +kernel
theorem dX6_readOne_65 : decode cX6_readOne 65 = .ok (.return_, 1) := by decide +kernel
theorem dX6_readName_0 : decode cX6_readName 0 = .ok (.aload_n 0, 1) := by decide +kernel
theorem dX6_readName_1 : decode cX6_readName 1 = .ok (.getfield 36, 3) := by decide +kernel
theorem dX6_readName_4 : decode cX6_readName 4 = .ok (.bipush 16, 2) := by decide +kernel
theorem dX6_readName_6 : decode cX6_readName 6 = .ok (.if_icmp .ne 15, 3) := by decide +kernel
theorem dX6_readName_9 : decode cX6_readName 9 = .ok (.aload_n 0, 1) := by decide +kernel
theorem dX6_readName_10 : decode cX6_readName 10 = .ok (.getfield 42, 3) := by decide +kernel
theorem dX6_readName_13 : decode cX6_readName 13 = .ok (.ifCond .eq 8, 3) := by decide +kernel
theorem dX6_readName_16 : decode cX6_readName 16 = .ok (.aload_n 0, 1) := by decide +kernel
theorem dX6_readName_17 : decode cX6_readName 17 = .ok (.iconst 5, 1) := by decide +kernel
theorem dX6_readName_18 : decode cX6_readName 18 = .ok (.invokevirtual 116, 3) := by decide +kernel
theorem dX6_readName_21 : decode cX6_readName 21 = .ok (.aload_n 0, 1) := by decide +kernel
theorem dX6_readName_22 : decode cX6_readName 22 = .ok (.getfield 46, 3) := by decide +kernel
theorem dX6_readName_25 : decode cX6_readName 25 = .ok (.aload_n 0, 1) := by decide +kernel
theorem dX6_readName_26 : decode cX6_readName 26 = .ok (.getfield 36, 3) := by decide +kernel
theorem dX6_readName_29 : decode cX6_readName 29 = .ok (.iconst 0, 1) := by decide +kernel
theorem dX6_readName_30 : decode cX6_readName 30 = .ok (.invokevirtual 144, 3) := by decide +kernel
theorem dX6_readName_33 : decode cX6_readName 33 = .ok (.aload_n 0, 1) := by decide +kernel
theorem dX6_readName_34 : decode cX6_readName 34 = .ok (.invokevirtual 138, 3) := by decide +kernel
theorem dX6_readName_37 : decode cX6_readName 37 = .ok (.return_, 1) := by decide +kernel
theorem dX6_opensOne_0 : decode cX6_opensOne 0 = .ok (.aload_n 0, 1) := by decide +kernel
theorem dX6_opensOne_1 : decode cX6_opensOne 1 = .ok (.getfield 36, 3) := by decide +kernel
theorem dX6_opensOne_4 : decode cX6_opensOne 4 = .ok (.bipush 36, 2) := by decide +kernel
theorem dX6_opensOne_6 : decode cX6_opensOne 6 = .ok (.if_icmp .eq 39, 3) := by decide +kernel
theorem dX6_opensOne_9 : decode cX6_opensOne 9 = .ok (.aload_n 0, 1) := by decide +kernel
theorem dX6_opensOne_10 : decode cX6_opensOne 10 = .ok (.getfield 36, 3) := by decide +kernel
theorem dX6_opensOne_13 : decode cX6_opensOne 13 = .ok (.bipush 33, 2) := by decide +kernel
theorem dX6_opensOne_15 : decode cX6_opensOne 15 = .ok (.if_icmp .eq 30, 3) := by decide +kernel
theorem dX6_opensOne_18 : decode cX6_opensOne 18 = .ok (.aload_n 0, 1) := by decide +kernel
theorem dX6_opensOne_19 : decode cX6_opensOne 19 = .ok (.getfield 36, 3) := by decide +kernel
theorem dX6_opensOne_22 : decode cX6_opensOne 22 = .ok (.bipush 17, 2) := by decide +kernel
theorem dX6_opensOne_24 : decode cX6_opensOne 24 = .ok (.if_icmp .eq 21, 3) := by decide +kernel
theorem dX6_opensOne_27 : decode cX6_opensOne 27 = .ok (.aload_n 0, 1) := by decide +kernel
theorem dX6_opensOne_28 : decode cX6_opensOne 28 = .ok (.getfield 36, 3) := by decide +kernel
theorem dX6_opensOne_31 : decode cX6_opensOne 31 = .ok (.bipush 18, 2) := by decide +kernel
theorem dX6_opensOne_33 : decode cX6_opensOne 33 = .ok (.if_icmp .eq 12, 3) := by decide +kernel
theorem dX6_opensOne_36 : decode cX6_opensOne 36 = .ok (.aload_n 0, 1) := by decide +kernel
theorem dX6_opensOne_37 : decode cX6_opensOne 37 = .ok (.getfield 36, 3) := by decide +kernel
theorem dX6_opensOne_40 : decode cX6_opensOne 40 = .ok (.bipush 19, 2) := by decide +kernel
theorem dX6_opensOne_42 : decode cX6_opensOne 42 = .ok (.if_icmp .ne 7, 3) := by decide +kernel
theorem dX6_opensOne_45 : decode cX6_opensOne 45 = .ok (.iconst 1, 1) := by decide +kernel
theorem dX6_opensOne_46 : decode cX6_opensOne 46 = .ok (.goto 4, 3) := by decide +kernel
theorem dX6_opensOne_49 : decode cX6_opensOne 49 = .ok (.iconst 0, 1) := by decide +kernel
theorem dX6_opensOne_50 : decode cX6_opensOne 50 = .ok (.ireturn, 1) := by decide +kernel
theorem dX6_readInner_0 : decode cX6_readInner 0 = .ok (.aload_n 0, 1) := by decide +kernel
theorem dX6_readInner_1 : decode cX6_readInner 1 = .ok (.getfield 36, 3) := by decide +kernel
theorem dX6_readInner_4 : decode cX6_readInner 4 = .ok (.istore_n 1, 1) := by decide +kernel
theorem dX6_readInner_5 : decode cX6_readInner 5 = .ok (.aload_n 0, 1) := by decide +kernel
theorem dX6_readInner_6 : decode cX6_readInner 6 = .ok (.getfield 39, 3) := by decide +kernel
theorem dX6_readInner_9 : decode cX6_readInner 9 = .ok (.bipush 8, 2) := by decide +kernel
theorem dX6_readInner_11 : decode cX6_readInner 11 = .ok (.if_icmp .lt 9, 3) := by decide +kernel
theorem dX6_readInner_14 : decode cX6_readInner 14 = .ok (.aload_n 0, 1) := by decide +kernel
theorem dX6_readInner_15 : decode cX6_readInner 15 = .ok (.iconst 3, 1) := by decide +kernel
theorem dX6_readInner_16 : decode cX6_readInner 16 = .ok (.invokevirtual 116, 3) := by decide +kernel
theorem dX6_readInner_19 : decode cX6_readInner 19 = .ok (.return_, 1) := by decide +kernel
theorem dX6_readInner_20 : decode cX6_readInner 20 = .ok (.aload_n 0, 1) := by decide +kernel
theorem dX6_readInner_21 : decode cX6_readInner 21 = .ok (.dup, 1) := by decide +kernel
theorem dX6_readInner_22 : decode cX6_readInner 22 = .ok (.getfield 39, 3) := by decide +kernel
theorem dX6_readInner_25 : decode cX6_readInner 25 = .ok (.iconst 1, 1) := by decide +kernel
theorem dX6_readInner_26 : decode cX6_readInner 26 = .ok (.iadd, 1) := by decide +kernel
theorem dX6_readInner_27 : decode cX6_readInner 27 = .ok (.putfield 39, 3) := by decide +kernel
theorem dX6_readInner_30 : decode cX6_readInner 30 = .ok (.aload_n 0, 1) := by decide +kernel
theorem dX6_readInner_31 : decode cX6_readInner 31 = .ok (.invokevirtual 138, 3) := by decide +kernel
theorem dX6_readInner_34 : decode cX6_readInner 34 = .ok (.iload_n 1, 1) := by decide +kernel
theorem dX6_readInner_35 : decode cX6_readInner 35 = .ok (.bipush 36, 2) := by decide +kernel
theorem dX6_readInner_37 : decode cX6_readInner 37 = .ok (.if_icmp .ne 16, 3) := by decide +kernel
theorem dX6_readInner_40 : decode cX6_readInner 40 = .ok (.aload_n 0, 1) := by decide +kernel
theorem dX6_readInner_41 : decode cX6_readInner 41 = .ok (.invokevirtual 141, 3) := by decide +kernel
theorem dX6_readInner_44 : decode cX6_readInner 44 = .ok (.aload_n 0, 1) := by decide +kernel
theorem dX6_readInner_45 : decode cX6_readInner 45 = .ok (.bipush 37, 2) := by decide +kernel
theorem dX6_readInner_47 : decode cX6_readInner 47 = .ok (.invokevirtual 129, 3) := by decide +kernel
theorem dX6_readInner_50 : decode cX6_readInner 50 = .ok (.goto 86, 3) := by decide +kernel
theorem dX6_readInner_53 : decode cX6_readInner 53 = .ok (.iload_n 1, 1) := by decide +kernel
theorem dX6_readInner_54 : decode cX6_readInner 54 = .ok (.bipush 33, 2) := by decide +kernel
theorem dX6_readInner_56 : decode cX6_readInner 56 = .ok (.if_icmp .ne 20, 3) := by decide +kernel
theorem dX6_readInner_59 : decode cX6_readInner 59 = .ok (.aload_n 0, 1) := by decide +kernel
theorem dX6_readInner_60 : decode cX6_readInner 60 = .ok (.invokevirtual 158, 3) := by decide +kernel
theorem dX6_readInner_63 : decode cX6_readInner 63 = .ok (.aload_n 0, 1) := by decide +kernel
theorem dX6_readInner_64 : decode cX6_readInner 64 = .ok (.getfield 46, 3) := by decide +kernel
theorem dX6_readInner_67 : decode cX6_readInner 67 = .ok (.bipush 45, 2) := by decide +kernel
theorem dX6_readInner_69 : decode cX6_readInner 69 = .ok (.iconst 0, 1) := by decide +kernel
theorem dX6_readInner_70 : decode cX6_readInner 70 = .ok (.invokevirtual 144, 3) := by decide +kernel
theorem dX6_readInner_73 : decode cX6_readInner 73 = .ok (.goto 63, 3) := by decide +kernel
theorem dX6_readInner_76 : decode cX6_readInner 76 = .ok (.iload_n 1, 1) := by decide +kernel
theorem dX6_readInner_77 : decode cX6_readInner 77 = .ok (.bipush 18, 2) := by decide +kernel
theorem dX6_readInner_79 : decode cX6_readInner 79 = .ok (.if_icmp .ne 20, 3) := by decide +kernel
theorem dX6_readInner_82 : decode cX6_readInner 82 = .ok (.aload_n 0, 1) := by decide +kernel
theorem dX6_readInner_83 : decode cX6_readInner 83 = .ok (.invokevirtual 158, 3) := by decide +kernel
theorem dX6_readInner_86 : decode cX6_readInner 86 = .ok (.aload_n 0, 1) := by decide +kernel
theorem dX6_readInner_87 : decode cX6_readInner 87 = .ok (.getfield 46, 3) := by decide +kernel
theorem dX6_readInner_90 : decode cX6_readInner 90 = .ok (.bipush 18, 2) := by decide +kernel
theorem dX6_readInner_92 : decode cX6_readInner 92 = .ok (.iconst 0, 1) := by decide +kernel
theorem dX6_readInner_93 : decode cX6_readInner 93 = .ok (.invokevirtual 144, 3) := by decide +kernel
theorem dX6_readInner_96 : decode cX6_readInner 96 = .ok (.goto 40, 3) := by decide +kernel
theorem dX6_readInner_99 : decode cX6_readInner 99 = .ok (.iload_n 1, 1) := by decide +kernel
theorem dX6_readInner_100 : decode cX6_readInner 100 = .ok (.bipush 17, 2) := by decide +kernel
theorem dX6_readInner_102 : decode cX6_readInner 102 = .ok (.if_icmp .ne 30, 3) := by decide +kernel
theorem dX6_readInner_105 : decode cX6_readInner 105 = .ok (.aload_n 0, 1) := by decide +kernel
theorem dX6_readInner_106 : decode cX6_readInner 106 = .ok (.invokevirtual 158, 3) := by decide +kernel
theorem dX6_readInner_109 : decode cX6_readInner 109 = .ok (.aload_n 0, 1) := by decide +kernel
theorem dX6_readInner_110 : decode cX6_readInner 110 = .ok (.bipush 21, 2) := by decide +kernel
theorem dX6_readInner_112 : decode cX6_readInner 112 = .ok (.invokevirtual 129, 3) := by decide +kernel
theorem dX6_readInner_115 : decode cX6_readInner 115 = .ok (.aload_n 0, 1) := by decide +kernel
theorem dX6_readInner_116 : decode cX6_readInner 116 = .ok (.invokevirtual 158, 3) := by decide +kernel
theorem dX6_readInner_119 : decode cX6_readInner 119 = .ok (.aload_n 0, 1) := by decide +kernel
theorem dX6_readInner_120 : decode cX6_readInner 120 = .ok (.getfield 46, 3) := by decide +kernel
theorem dX6_readInner_123 : decode cX6_readInner 123 = .ok (.bipush 17, 2) := by decide +kernel
theorem dX6_readInner_125 : decode cX6_readInner 125 = .ok (.iconst 0, 1) := by decide +kernel
theorem dX6_readInner_126 : decode cX6_readInner 126 = .ok (.invokevirtual 144, 3) := by decide +kernel
theorem dX6_readInner_129 : decode cX6_readInner 129 = .ok (.goto 7, 3) := by decide +kernel
theorem dX6_readInner_132 : decode cX6_readInner 132 = .ok (.aload_n 0, 1) := by decide +kernel
theorem dX6_readInner_133 : decode cX6_readInner 133 = .ok (.invokevirtual 174, 3) := by decide +kernel
theorem dX6_readInner_136 : decode cX6_readInner 136 = .ok (.aload_n 0, 1) := by decide +kernel
theorem dX6_readInner_137 : decode cX6_readInner 137 = .ok (.dup, 1) := by decide +kernel
theorem dX6_readInner_138 : decode cX6_readInner 138 = .ok (.getfield 39, 3) := by decide +kernel
theorem dX6_readInner_141 : decode cX6_readInner 141 = .ok (.iconst 1, 1) := by decide +kernel
theorem dX6_readInner_142 : decode cX6_readInner 142 = .ok (.isub, 1) := by decide +kernel
theorem dX6_readInner_143 : decode cX6_readInner 143 = .ok (.putfield 39, 3) := by decide +kernel
theorem dX6_readInner_146 : decode cX6_readInner 146 = .ok (.return_, 1) := by decide +kernel
theorem dX6_readChoice_0 : decode cX6_readChoice 0 = .ok (.aload_n 0, 1) := by decide +kernel
theorem dX6_readChoice_1 : decode cX6_readChoice 1 = .ok (.invokevirtual 177, 3) := by decide +kernel
theorem dX6_readChoice_4 : decode cX6_readChoice 4 = .ok (.aload_n 0, 1) := by decide +kernel
theorem dX6_readChoice_5 : decode cX6_readChoice 5 = .ok (.bipush 23, 2) := by decide +kernel
theorem dX6_readChoice_7 : decode cX6_readChoice 7 = .ok (.invokevirtual 129, 3) := by decide +kernel
theorem dX6_readChoice_10 : decode cX6_readChoice 10 = .ok (.aload_n 0, 1) := by decide +kernel
theorem dX6_readChoice_11 : decode cX6_readChoice 11 = .ok (.getfield 46, 3) := by decide +kernel
theorem dX6_readChoice_14 : decode cX6_readChoice 14 = .ok (.getfield 132, 3) := by decide +kernel
theorem dX6_readChoice_17 : decode cX6_readChoice 17 = .ok (.istore_n 1, 1) := by decide +kernel
theorem dX6_readChoice_18 : decode cX6_readChoice 18 = .ok (.aload_n 0, 1) := by decide +kernel
theorem dX6_readChoice_19 : decode cX6_readChoice 19 = .ok (.getfield 46, 3) := by decide +kernel
theorem dX6_readChoice_22 : decode cX6_readChoice 22 = .ok (.bipush 47, 2) := by decide +kernel
theorem dX6_readChoice_24 : decode cX6_readChoice 24 = .ok (.iconst 0, 1) := by decide +kernel
theorem dX6_readChoice_25 : decode cX6_readChoice 25 = .ok (.invokevirtual 144, 3) := by decide +kernel
theorem dX6_readChoice_28 : decode cX6_readChoice 28 = .ok (.aload_n 0, 1) := by decide +kernel
theorem dX6_readChoice_29 : decode cX6_readChoice 29 = .ok (.invokevirtual 141, 3) := by decide +kernel
theorem dX6_readChoice_32 : decode cX6_readChoice 32 = .ok (.aload_n 0, 1) := by decide +kernel
theorem dX6_readChoice_33 : decode cX6_readChoice 33 = .ok (.bipush 24, 2) := by decide +kernel
theorem dX6_readChoice_35 : decode cX6_readChoice 35 = .ok (.invokevirtual 129, 3) := by decide +kernel
theorem dX6_readChoice_38 : decode cX6_readChoice 38 = .ok (.aload_n 0, 1) := by decide +kernel
theorem dX6_readChoice_39 : decode cX6_readChoice 39 = .ok (.getfield 46, 3) := by decide +kernel
theorem dX6_readChoice_42 : decode cX6_readChoice 42 = .ok (.getfield 132, 3) := by decide +kernel
theorem dX6_readChoice_45 : decode cX6_readChoice 45 = .ok (.istore_n 2, 1) := by decide +kernel
theorem dX6_readChoice_46 : decode cX6_readChoice 46 = .ok (.aload_n 0, 1) := by decide +kernel
theorem dX6_readChoice_47 : decode cX6_readChoice 47 = .ok (.getfield 46, 3) := by decide +kernel
theorem dX6_readChoice_50 : decode cX6_readChoice 50 = .ok (.bipush 46, 2) := by decide +kernel
theorem dX6_readChoice_52 : decode cX6_readChoice 52 = .ok (.iconst 0, 1) := by decide +kernel
theorem dX6_readChoice_53 : decode cX6_readChoice 53 = .ok (.invokevirtual 144, 3) := by decide +kernel
theorem dX6_readChoice_56 : decode cX6_readChoice 56 = .ok (.aload_n 0, 1) := by decide +kernel
theorem dX6_readChoice_57 : decode cX6_readChoice 57 = .ok (.getfield 46, 3) := by decide +kernel
theorem dX6_readChoice_60 : decode cX6_readChoice 60 = .ok (.iload_n 1, 1) := by decide +kernel
theorem dX6_readChoice_61 : decode cX6_readChoice 61 = .ok (.invokevirtual 180, 3) := by decide +kernel
theorem dX6_readChoice_64 : decode cX6_readChoice 64 = .ok (.aload_n 0, 1) := by decide +kernel
theorem dX6_readChoice_65 : decode cX6_readChoice 65 = .ok (.invokevirtual 141, 3) := by decide +kernel
theorem dX6_readChoice_68 : decode cX6_readChoice 68 = .ok (.aload_n 0, 1) := by decide +kernel
theorem dX6_readChoice_69 : decode cX6_readChoice 69 = .ok (.bipush 25, 2) := by decide +kernel
theorem dX6_readChoice_71 : decode cX6_readChoice 71 = .ok (.invokevirtual 129, 3) := by decide +kernel
theorem dX6_readChoice_74 : decode cX6_readChoice 74 = .ok (.aload_n 0, 1) := by decide +kernel
theorem dX6_readChoice_75 : decode cX6_readChoice 75 = .ok (.getfield 46, 3) := by decide +kernel
theorem dX6_readChoice_78 : decode cX6_readChoice 78 = .ok (.iload_n 2, 1) := by decide +kernel
theorem dX6_readChoice_79 : decode cX6_readChoice 79 = .ok (.invokevirtual 180, 3) := by decide +kernel
theorem dX6_readChoice_82 : decode cX6_readChoice 82 = .ok (.return_, 1) := by decide +kernel
theorem dX6_readEither_0 : decode cX6_readEither 0 = .ok (.aload_n 0, 1) := by decide +kernel
theorem dX6_readEither_1 : decode cX6_readEither 1 = .ok (.invokevirtual 183, 3) := by decide +kernel
theorem dX6_readEither_4 : decode cX6_readEither 4 = .ok (.iconst 0, 1) := by decide +kernel
theorem dX6_readEither_5 : decode cX6_readEither 5 = .ok (.istore_n 1, 1) := by decide +kernel
theorem dX6_readEither_6 : decode cX6_readEither 6 = .ok (.iload_n 1, 1) := by decide +kernel
theorem dX6_readEither_7 : decode cX6_readEither 7 = .ok (.sipush 300, 3) := by decide +kernel
theorem dX6_readEither_10 : decode cX6_readEither 10 = .ok (.if_icmp .ge 36, 3) := by decide +kernel
theorem dX6_readEither_13 : decode cX6_readEither 13 = .ok (.aload_n 0, 1) := by decide +kernel
theorem dX6_readEither_14 : decode cX6_readEither 14 = .ok (.getfield 36, 3) := by decide +kernel
theorem dX6_readEither_17 : decode cX6_readEither 17 = .ok (.bipush 26, 2) := by decide +kernel
theorem dX6_readEither_19 : decode cX6_readEither 19 = .ok (.if_icmp .ne 27, 3) := by decide +kernel
theorem dX6_readEither_22 : decode cX6_readEither 22 = .ok (.aload_n 0, 1) := by decide +kernel
theorem dX6_readEither_23 : decode cX6_readEither 23 = .ok (.invokevirtual 138, 3) := by decide +kernel
theorem dX6_readEither_26 : decode cX6_readEither 26 = .ok (.aload_n 0, 1) := by decide +kernel
theorem dX6_readEither_27 : decode cX6_readEither 27 = .ok (.invokevirtual 183, 3) := by decide +kernel
theorem dX6_readEither_30 : decode cX6_readEither 30 = .ok (.aload_n 0, 1) := by decide +kernel
theorem dX6_readEither_31 : decode cX6_readEither 31 = .ok (.getfield 46, 3) := by decide +kernel
theorem dX6_readEither_34 : decode cX6_readEither 34 = .ok (.bipush 26, 2) := by decide +kernel
theorem dX6_readEither_36 : decode cX6_readEither 36 = .ok (.iconst 0, 1) := by decide +kernel
theorem dX6_readEither_37 : decode cX6_readEither 37 = .ok (.invokevirtual 144, 3) := by decide +kernel
theorem dX6_readEither_40 : decode cX6_readEither 40 = .ok (.iinc 1 1, 3) := by decide +kernel
theorem dX6_readEither_43 : decode cX6_readEither 43 = .ok (.goto (-37), 3) := by decide +kernel
theorem dX6_readEither_46 : decode cX6_readEither 46 = .ok (.return_, 1) := by decide +kernel
theorem dX6_readBoth_0 : decode cX6_readBoth 0 = .ok (.aload_n 0, 1) := by decide +kernel
theorem dX6_readBoth_1 : decode cX6_readBoth 1 = .ok (.invokevirtual 186, 3) := by decide +kernel
theorem dX6_readBoth_4 : decode cX6_readBoth 4 = .ok (.iconst 0, 1) := by decide +kernel
theorem dX6_readBoth_5 : decode cX6_readBoth 5 = .ok (.istore_n 1, 1) := by decide +kernel
theorem dX6_readBoth_6 : decode cX6_readBoth 6 = .ok (.iload_n 1, 1) := by decide +kernel
theorem dX6_readBoth_7 : decode cX6_readBoth 7 = .ok (.sipush 300, 3) := by decide +kernel
theorem dX6_readBoth_10 : decode cX6_readBoth 10 = .ok (.if_icmp .ge 36, 3) := by decide +kernel
theorem dX6_readBoth_13 : decode cX6_readBoth 13 = .ok (.aload_n 0, 1) := by decide +kernel
theorem dX6_readBoth_14 : decode cX6_readBoth 14 = .ok (.getfield 36, 3) := by decide +kernel
theorem dX6_readBoth_17 : decode cX6_readBoth 17 = .ok (.bipush 27, 2) := by decide +kernel
theorem dX6_readBoth_19 : decode cX6_readBoth 19 = .ok (.if_icmp .ne 27, 3) := by decide +kernel
theorem dX6_readBoth_22 : decode cX6_readBoth 22 = .ok (.aload_n 0, 1) := by decide +kernel
theorem dX6_readBoth_23 : decode cX6_readBoth 23 = .ok (.invokevirtual 138, 3) := by decide +kernel
theorem dX6_readBoth_26 : decode cX6_readBoth 26 = .ok (.aload_n 0, 1) := by decide +kernel
theorem dX6_readBoth_27 : decode cX6_readBoth 27 = .ok (.invokevirtual 186, 3) := by decide +kernel
theorem dX6_readBoth_30 : decode cX6_readBoth 30 = .ok (.aload_n 0, 1) := by decide +kernel
theorem dX6_readBoth_31 : decode cX6_readBoth 31 = .ok (.getfield 46, 3) := by decide +kernel
theorem dX6_readBoth_34 : decode cX6_readBoth 34 = .ok (.bipush 27, 2) := by decide +kernel
theorem dX6_readBoth_36 : decode cX6_readBoth 36 = .ok (.iconst 0, 1) := by decide +kernel
theorem dX6_readBoth_37 : decode cX6_readBoth 37 = .ok (.invokevirtual 144, 3) := by decide +kernel
theorem dX6_readBoth_40 : decode cX6_readBoth 40 = .ok (.iinc 1 1, 3) := by decide +kernel
theorem dX6_readBoth_43 : decode cX6_readBoth 43 = .ok (.goto (-37), 3) := by decide +kernel
theorem dX6_readBoth_46 : decode cX6_readBoth 46 = .ok (.return_, 1) := by decide +kernel
theorem dX6_readAsk_0 : decode cX6_readAsk 0 = .ok (.aload_n 0, 1) := by decide +kernel
theorem dX6_readAsk_1 : decode cX6_readAsk 1 = .ok (.getfield 36, 3) := by decide +kernel
theorem dX6_readAsk_4 : decode cX6_readAsk 4 = .ok (.bipush 20, 2) := by decide +kernel
theorem dX6_readAsk_6 : decode cX6_readAsk 6 = .ok (.if_icmp .ne 57, 3) := by decide +kernel
theorem dX6_readAsk_9 : decode cX6_readAsk 9 = .ok (.aload_n 0, 1) := by decide +kernel
theorem dX6_readAsk_10 : decode cX6_readAsk 10 = .ok (.getfield 39, 3) := by decide +kernel
theorem dX6_readAsk_13 : decode cX6_readAsk 13 = .ok (.bipush 8, 2) := by decide +kernel
theorem dX6_readAsk_15 : decode cX6_readAsk 15 = .ok (.if_icmp .lt 9, 3) := by decide +kernel
theorem dX6_readAsk_18 : decode cX6_readAsk 18 = .ok (.aload_n 0, 1) := by decide +kernel
theorem dX6_readAsk_19 : decode cX6_readAsk 19 = .ok (.iconst 3, 1) := by decide +kernel
theorem dX6_readAsk_20 : decode cX6_readAsk 20 = .ok (.invokevirtual 116, 3) := by decide +kernel
theorem dX6_readAsk_23 : decode cX6_readAsk 23 = .ok (.return_, 1) := by decide +kernel
theorem dX6_readAsk_24 : decode cX6_readAsk 24 = .ok (.aload_n 0, 1) := by decide +kernel
theorem dX6_readAsk_25 : decode cX6_readAsk 25 = .ok (.dup, 1) := by decide +kernel
theorem dX6_readAsk_26 : decode cX6_readAsk 26 = .ok (.getfield 39, 3) := by decide +kernel
theorem dX6_readAsk_29 : decode cX6_readAsk 29 = .ok (.iconst 1, 1) := by decide +kernel
theorem dX6_readAsk_30 : decode cX6_readAsk 30 = .ok (.iadd, 1) := by decide +kernel
theorem dX6_readAsk_31 : decode cX6_readAsk 31 = .ok (.putfield 39, 3) := by decide +kernel
theorem dX6_readAsk_34 : decode cX6_readAsk 34 = .ok (.aload_n 0, 1) := by decide +kernel
theorem dX6_readAsk_35 : decode cX6_readAsk 35 = .ok (.invokevirtual 138, 3) := by decide +kernel
theorem dX6_readAsk_38 : decode cX6_readAsk 38 = .ok (.aload_n 0, 1) := by decide +kernel
theorem dX6_readAsk_39 : decode cX6_readAsk 39 = .ok (.invokevirtual 186, 3) := by decide +kernel
theorem dX6_readAsk_42 : decode cX6_readAsk 42 = .ok (.aload_n 0, 1) := by decide +kernel
theorem dX6_readAsk_43 : decode cX6_readAsk 43 = .ok (.getfield 46, 3) := by decide +kernel
theorem dX6_readAsk_46 : decode cX6_readAsk 46 = .ok (.bipush 20, 2) := by decide +kernel
theorem dX6_readAsk_48 : decode cX6_readAsk 48 = .ok (.iconst 0, 1) := by decide +kernel
theorem dX6_readAsk_49 : decode cX6_readAsk 49 = .ok (.invokevirtual 144, 3) := by decide +kernel
theorem dX6_readAsk_52 : decode cX6_readAsk 52 = .ok (.aload_n 0, 1) := by decide +kernel
theorem dX6_readAsk_53 : decode cX6_readAsk 53 = .ok (.dup, 1) := by decide +kernel
theorem dX6_readAsk_54 : decode cX6_readAsk 54 = .ok (.getfield 39, 3) := by decide +kernel
theorem dX6_readAsk_57 : decode cX6_readAsk 57 = .ok (.iconst 1, 1) := by decide +kernel
theorem dX6_readAsk_58 : decode cX6_readAsk 58 = .ok (.isub, 1) := by decide +kernel
theorem dX6_readAsk_59 : decode cX6_readAsk 59 = .ok (.putfield 39, 3) := by decide +kernel
theorem dX6_readAsk_62 : decode cX6_readAsk 62 = .ok (.return_, 1) := by decide +kernel
theorem dX6_readAsk_63 : decode cX6_readAsk 63 = .ok (.aload_n 0, 1) := by decide +kernel
theorem dX6_readAsk_64 : decode cX6_readAsk 64 = .ok (.invokevirtual 141, 3) := by decide +kernel
theorem dX6_readAsk_67 : decode cX6_readAsk 67 = .ok (.aload_n 0, 1) := by decide +kernel
theorem dX6_readAsk_68 : decode cX6_readAsk 68 = .ok (.getfield 36, 3) := by decide +kernel
theorem dX6_readAsk_71 : decode cX6_readAsk 71 = .ok (.istore_n 1, 1) := by decide +kernel
theorem dX6_readAsk_72 : decode cX6_readAsk 72 = .ok (.iload_n 1, 1) := by decide +kernel
theorem dX6_readAsk_73 : decode cX6_readAsk 73 = .ok (.invokestatic 189, 3) := by decide +kernel
theorem dX6_readAsk_76 : decode cX6_readAsk 76 = .ok (.ifCond .ne 8, 3) := by decide +kernel
theorem dX6_readAsk_79 : decode cX6_readAsk 79 = .ok (.aload_n 0, 1) := by decide +kernel
theorem dX6_readAsk_80 : decode cX6_readAsk 80 = .ok (.iconst 1, 1) := by decide +kernel
theorem dX6_readAsk_81 : decode cX6_readAsk 81 = .ok (.invokevirtual 116, 3) := by decide +kernel
theorem dX6_readAsk_84 : decode cX6_readAsk 84 = .ok (.aload_n 0, 1) := by decide +kernel
theorem dX6_readAsk_85 : decode cX6_readAsk 85 = .ok (.invokevirtual 138, 3) := by decide +kernel
theorem dX6_readAsk_88 : decode cX6_readAsk 88 = .ok (.aload_n 0, 1) := by decide +kernel
theorem dX6_readAsk_89 : decode cX6_readAsk 89 = .ok (.invokevirtual 141, 3) := by decide +kernel
theorem dX6_readAsk_92 : decode cX6_readAsk 92 = .ok (.aload_n 0, 1) := by decide +kernel
theorem dX6_readAsk_93 : decode cX6_readAsk 93 = .ok (.getfield 46, 3) := by decide +kernel
theorem dX6_readAsk_96 : decode cX6_readAsk 96 = .ok (.iload_n 1, 1) := by decide +kernel
theorem dX6_readAsk_97 : decode cX6_readAsk 97 = .ok (.iconst 0, 1) := by decide +kernel
theorem dX6_readAsk_98 : decode cX6_readAsk 98 = .ok (.invokevirtual 144, 3) := by decide +kernel
theorem dX6_readAsk_101 : decode cX6_readAsk 101 = .ok (.return_, 1) := by decide +kernel
theorem dX7_init_0 : decode cX7_init 0 = .ok (.aload_n 0, 1) := by decide +kernel
theorem dX7_init_1 : decode cX7_init 1 = .ok (.invokespecial 3, 3) := by decide +kernel
theorem dX7_init_4 : decode cX7_init 4 = .ok (.aload_n 0, 1) := by decide +kernel
theorem dX7_init_5 : decode cX7_init 5 = .ok (.ldc 11, 2) := by decide +kernel
theorem dX7_init_7 : decode cX7_init 7 = .ok (.putfield 12, 3) := by decide +kernel
theorem dX7_init_10 : decode cX7_init 10 = .ok (.aload_n 0, 1) := by decide +kernel
theorem dX7_init_11 : decode cX7_init 11 = .ok (.bipush 7, 2) := by decide +kernel
theorem dX7_init_13 : decode cX7_init 13 = .ok (.newarray .int, 2) := by decide +kernel
theorem dX7_init_15 : decode cX7_init 15 = .ok (.putfield 16, 3) := by decide +kernel
theorem dX7_init_18 : decode cX7_init 18 = .ok (.aload_n 0, 1) := by decide +kernel
theorem dX7_init_19 : decode cX7_init 19 = .ok (.bipush 7, 2) := by decide +kernel
theorem dX7_init_21 : decode cX7_init 21 = .ok (.newarray .int, 2) := by decide +kernel
theorem dX7_init_23 : decode cX7_init 23 = .ok (.putfield 20, 3) := by decide +kernel
theorem dX7_init_26 : decode cX7_init 26 = .ok (.aload_n 0, 1) := by decide +kernel
theorem dX7_init_27 : decode cX7_init 27 = .ok (.iconst 5, 1) := by decide +kernel
theorem dX7_init_28 : decode cX7_init 28 = .ok (.newarray .int, 2) := by decide +kernel
theorem dX7_init_30 : decode cX7_init 30 = .ok (.putfield 23, 3) := by decide +kernel
theorem dX7_init_33 : decode cX7_init 33 = .ok (.aload_n 0, 1) := by decide +kernel
theorem dX7_init_34 : decode cX7_init 34 = .ok (.bipush 35, 2) := by decide +kernel
theorem dX7_init_36 : decode cX7_init 36 = .ok (.newarray .int, 2) := by decide +kernel
theorem dX7_init_38 : decode cX7_init 38 = .ok (.putfield 26, 3) := by decide +kernel
theorem dX7_init_41 : decode cX7_init 41 = .ok (.aload_n 0, 1) := by decide +kernel
theorem dX7_init_42 : decode cX7_init 42 = .ok (.iconst 0, 1) := by decide +kernel
theorem dX7_init_43 : decode cX7_init 43 = .ok (.newarray .int, 2) := by decide +kernel
theorem dX7_init_45 : decode cX7_init 45 = .ok (.putfield 29, 3) := by decide +kernel
theorem dX7_init_48 : decode cX7_init 48 = .ok (.aload_n 0, 1) := by decide +kernel
theorem dX7_init_49 : decode cX7_init 49 = .ok (.iconst 0, 1) := by decide +kernel
theorem dX7_init_50 : decode cX7_init 50 = .ok (.putfield 32, 3) := by decide +kernel
theorem dX7_init_53 : decode cX7_init 53 = .ok (.aload_n 0, 1) := by decide +kernel
theorem dX7_init_54 : decode cX7_init 54 = .ok (.iconst 0, 1) := by decide +kernel
theorem dX7_init_55 : decode cX7_init 55 = .ok (.putfield 35, 3) := by decide +kernel
theorem dX7_init_58 : decode cX7_init 58 = .ok (.return_, 1) := by decide +kernel
theorem dX7_make_0 : decode cX7_make 0 = .ok (.aload_n 0, 1) := by decide +kernel
theorem dX7_make_1 : decode cX7_make 1 = .ok (.aload_n 1, 1) := by decide +kernel
theorem dX7_make_2 : decode cX7_make 2 = .ok (.putfield 29, 3) := by decide +kernel
theorem dX7_make_5 : decode cX7_make 5 = .ok (.aload_n 0, 1) := by decide +kernel
theorem dX7_make_6 : decode cX7_make 6 = .ok (.aload_n 1, 1) := by decide +kernel
theorem dX7_make_7 : decode cX7_make 7 = .ok (.bipush 84, 2) := by decide +kernel
theorem dX7_make_9 : decode cX7_make 9 = .ok (.iaload, 1) := by decide +kernel
theorem dX7_make_10 : decode cX7_make 10 = .ok (.putfield 32, 3) := by decide +kernel
theorem dX7_make_13 : decode cX7_make 13 = .ok (.aload_n 0, 1) := by decide +kernel
theorem dX7_make_14 : decode cX7_make 14 = .ok (.iload_n 2, 1) := by decide +kernel
theorem dX7_make_15 : decode cX7_make 15 = .ok (.putfield 35, 3) := by decide +kernel
theorem dX7_make_18 : decode cX7_make 18 = .ok (.aload_n 0, 1) := by decide +kernel
theorem dX7_make_19 : decode cX7_make 19 = .ok (.ldc 11, 2) := by decide +kernel
theorem dX7_make_21 : decode cX7_make 21 = .ok (.putfield 12, 3) := by decide +kernel
theorem dX7_make_24 : decode cX7_make 24 = .ok (.iconst 0, 1) := by decide +kernel
theorem dX7_make_25 : decode cX7_make 25 = .ok (.istore_n 3, 1) := by decide +kernel
theorem dX7_make_26 : decode cX7_make 26 = .ok (.iload_n 3, 1) := by decide +kernel
theorem dX7_make_27 : decode cX7_make 27 = .ok (.iconst 5, 1) := by decide +kernel
theorem dX7_make_28 : decode cX7_make 28 = .ok (.if_icmp .ge 16, 3) := by decide +kernel
theorem dX7_make_31 : decode cX7_make 31 = .ok (.aload_n 0, 1) := by decide +kernel
theorem dX7_make_32 : decode cX7_make 32 = .ok (.getfield 23, 3) := by decide +kernel
theorem dX7_make_35 : decode cX7_make 35 = .ok (.iload_n 3, 1) := by decide +kernel
theorem dX7_make_36 : decode cX7_make 36 = .ok (.iconst 0, 1) := by decide +kernel
theorem dX7_make_37 : decode cX7_make 37 = .ok (.iastore, 1) := by decide +kernel
theorem dX7_make_38 : decode cX7_make 38 = .ok (.iinc 3 1, 3) := by decide +kernel
theorem dX7_make_41 : decode cX7_make 41 = .ok (.goto (-15), 3) := by decide +kernel
theorem dX7_make_44 : decode cX7_make 44 = .ok (.bipush 6, 2) := by decide +kernel
theorem dX7_make_46 : decode cX7_make 46 = .ok (.istore_n 3, 1) := by decide +kernel
theorem dX7_make_47 : decode cX7_make 47 = .ok (.iload_n 3, 1) := by decide +kernel
theorem dX7_make_48 : decode cX7_make 48 = .ok (.ifCond .lt 14, 3) := by decide +kernel
theorem dX7_make_51 : decode cX7_make 51 = .ok (.aload_n 0, 1) := by decide +kernel
theorem dX7_make_52 : decode cX7_make 52 = .ok (.iload_n 3, 1) := by decide +kernel
theorem dX7_make_53 : decode cX7_make 53 = .ok (.invokevirtual 38, 3) := by decide +kernel
theorem dX7_make_56 : decode cX7_make 56 = .ok (.iinc 3 (-1), 3) := by decide +kernel
theorem dX7_make_59 : decode cX7_make 59 = .ok (.goto (-12), 3) := by decide +kernel
theorem dX7_make_62 : decode cX7_make 62 = .ok (.aload_n 0, 1) := by decide +kernel
theorem dX7_make_63 : decode cX7_make 63 = .ok (.iconst 0, 1) := by decide +kernel
theorem dX7_make_64 : decode cX7_make 64 = .ok (.iconst (-1), 1) := by decide +kernel
theorem dX7_make_65 : decode cX7_make 65 = .ok (.iconst 0, 1) := by decide +kernel
theorem dX7_make_66 : decode cX7_make 66 = .ok (.invokevirtual 42, 3) := by decide +kernel
theorem dX7_make_69 : decode cX7_make 69 = .ok (.aload_n 0, 1) := by decide +kernel
theorem dX7_make_70 : decode cX7_make 70 = .ok (.getfield 12, 3) := by decide +kernel
theorem dX7_make_73 : decode cX7_make 73 = .ok (.ldc 11, 2) := by decide +kernel
theorem dX7_make_75 : decode cX7_make 75 = .ok (.if_icmp .ge 7, 3) := by decide +kernel
theorem dX7_make_78 : decode cX7_make 78 = .ok (.iconst 1, 1) := by decide +kernel
theorem dX7_make_79 : decode cX7_make 79 = .ok (.goto 4, 3) := by decide +kernel
theorem dX7_make_82 : decode cX7_make 82 = .ok (.iconst 0, 1) := by decide +kernel
theorem dX7_make_83 : decode cX7_make 83 = .ok (.ireturn, 1) := by decide +kernel
theorem dX7_costOf_0 : decode cX7_costOf 0 = .ok (.aload_n 0, 1) := by decide +kernel
theorem dX7_costOf_1 : decode cX7_costOf 1 = .ok (.getfield 29, 3) := by decide +kernel
theorem dX7_costOf_4 : decode cX7_costOf 4 = .ok (.bipush 118, 2) := by decide +kernel
theorem dX7_costOf_6 : decode cX7_costOf 6 = .ok (.iload_n 1, 1) := by decide +kernel
theorem dX7_costOf_7 : decode cX7_costOf 7 = .ok (.bipush 7, 2) := by decide +kernel
theorem dX7_costOf_9 : decode cX7_costOf 9 = .ok (.imul, 1) := by decide +kernel
theorem dX7_costOf_10 : decode cX7_costOf 10 = .ok (.iadd, 1) := by decide +kernel
theorem dX7_costOf_11 : decode cX7_costOf 11 = .ok (.iload_n 2, 1) := by decide +kernel
theorem dX7_costOf_12 : decode cX7_costOf 12 = .ok (.iadd, 1) := by decide +kernel
theorem dX7_costOf_13 : decode cX7_costOf 13 = .ok (.iaload, 1) := by decide +kernel
theorem dX7_costOf_14 : decode cX7_costOf 14 = .ok (.ireturn, 1) := by decide +kernel
theorem dX7_boundDay_0 : decode cX7_boundDay 0 = .ok (.iconst 0, 1) := by decide +kernel
theorem dX7_boundDay_1 : decode cX7_boundDay 1 = .ok (.istore_n 2, 1) := by decide +kernel
theorem dX7_boundDay_2 : decode cX7_boundDay 2 = .ok (.iload_n 2, 1) := by decide +kernel
theorem dX7_boundDay_3 : decode cX7_boundDay 3 = .ok (.aload_n 0, 1) := by decide +kernel
theorem dX7_boundDay_4 : decode cX7_boundDay 4 = .ok (.getfield 32, 3) := by decide +kernel
theorem dX7_boundDay_7 : decode cX7_boundDay 7 = .ok (.if_icmp .ge 95, 3) := by decide +kernel
theorem dX7_boundDay_10 : decode cX7_boundDay 10 = .ok (.iload_n 1, 1) := by decide +kernel
theorem dX7_boundDay_11 : decode cX7_boundDay 11 = .ok (.bipush 6, 2) := by decide +kernel
theorem dX7_boundDay_13 : decode cX7_boundDay 13 = .ok (.if_icmp .ne 7, 3) := by decide +kernel
theorem dX7_boundDay_16 : decode cX7_boundDay 16 = .ok (.iconst 0, 1) := by decide +kernel
theorem dX7_boundDay_17 : decode cX7_boundDay 17 = .ok (.goto 5, 3) := by decide +kernel
theorem dX7_boundDay_20 : decode cX7_boundDay 20 = .ok (.ldc 11, 2) := by decide +kernel
theorem dX7_boundDay_22 : decode cX7_boundDay 22 = .ok (.istore_n 3, 1) := by decide +kernel
theorem dX7_boundDay_23 : decode cX7_boundDay 23 = .ok (.iconst 0, 1) := by decide +kernel
theorem dX7_boundDay_24 : decode cX7_boundDay 24 = .ok (.istore 4, 2) := by decide +kernel
theorem dX7_boundDay_26 : decode cX7_boundDay 26 = .ok (.iload 4, 2) := by decide +kernel
theorem dX7_boundDay_28 : decode cX7_boundDay 28 = .ok (.aload_n 0, 1) := by decide +kernel
theorem dX7_boundDay_29 : decode cX7_boundDay 29 = .ok (.getfield 32, 3) := by decide +kernel
theorem dX7_boundDay_32 : decode cX7_boundDay 32 = .ok (.if_icmp .ge 53, 3) := by decide +kernel
theorem dX7_boundDay_35 : decode cX7_boundDay 35 = .ok (.iload_n 1, 1) := by decide +kernel
theorem dX7_boundDay_36 : decode cX7_boundDay 36 = .ok (.bipush 6, 2) := by decide +kernel
theorem dX7_boundDay_38 : decode cX7_boundDay 38 = .ok (.if_icmp .ge 47, 3) := by decide +kernel
theorem dX7_boundDay_41 : decode cX7_boundDay 41 = .ok (.iload 4, 2) := by decide +kernel
theorem dX7_boundDay_43 : decode cX7_boundDay 43 = .ok (.iload_n 2, 1) := by decide +kernel
theorem dX7_boundDay_44 : decode cX7_boundDay 44 = .ok (.if_icmp .eq 35, 3) := by decide +kernel
theorem dX7_boundDay_47 : decode cX7_boundDay 47 = .ok (.aload_n 0, 1) := by decide +kernel
theorem dX7_boundDay_48 : decode cX7_boundDay 48 = .ok (.iload 4, 2) := by decide +kernel
theorem dX7_boundDay_50 : decode cX7_boundDay 50 = .ok (.iload_n 1, 1) := by decide +kernel
theorem dX7_boundDay_51 : decode cX7_boundDay 51 = .ok (.iconst 1, 1) := by decide +kernel
theorem dX7_boundDay_52 : decode cX7_boundDay 52 = .ok (.iadd, 1) := by decide +kernel
theorem dX7_boundDay_53 : decode cX7_boundDay 53 = .ok (.invokevirtual 46, 3) := by decide +kernel
theorem dX7_boundDay_56 : decode cX7_boundDay 56 = .ok (.aload_n 0, 1) := by decide +kernel
theorem dX7_boundDay_57 : decode cX7_boundDay 57 = .ok (.getfield 26, 3) := by decide +kernel
theorem dX7_boundDay_60 : decode cX7_boundDay 60 = .ok (.iload_n 1, 1) := by decide +kernel
theorem dX7_boundDay_61 : decode cX7_boundDay 61 = .ok (.iconst 1, 1) := by decide +kernel
theorem dX7_boundDay_62 : decode cX7_boundDay 62 = .ok (.iadd, 1) := by decide +kernel
theorem dX7_boundDay_63 : decode cX7_boundDay 63 = .ok (.iconst 5, 1) := by decide +kernel
theorem dX7_boundDay_64 : decode cX7_boundDay 64 = .ok (.imul, 1) := by decide +kernel
theorem dX7_boundDay_65 : decode cX7_boundDay 65 = .ok (.iload 4, 2) := by decide +kernel
theorem dX7_boundDay_67 : decode cX7_boundDay 67 = .ok (.iadd, 1) := by decide +kernel
theorem dX7_boundDay_68 : decode cX7_boundDay 68 = .ok (.iaload, 1) := by decide +kernel
theorem dX7_boundDay_69 : decode cX7_boundDay 69 = .ok (.iadd, 1) := by decide +kernel
theorem dX7_boundDay_70 : decode cX7_boundDay 70 = .ok (.istore 5, 2) := by decide +kernel
theorem dX7_boundDay_72 : decode cX7_boundDay 72 = .ok (.iload_n 3, 1) := by decide +kernel
theorem dX7_boundDay_73 : decode cX7_boundDay 73 = .ok (.iload 5, 2) := by decide +kernel
theorem dX7_boundDay_75 : decode cX7_boundDay 75 = .ok (.invokestatic 50, 3) := by decide +kernel
theorem dX7_boundDay_78 : decode cX7_boundDay 78 = .ok (.istore_n 3, 1) := by decide +kernel
theorem dX7_boundDay_79 : decode cX7_boundDay 79 = .ok (.iinc 4 1, 3) := by decide +kernel
theorem dX7_boundDay_82 : decode cX7_boundDay 82 = .ok (.goto (-56), 3) := by decide +kernel
theorem dX7_boundDay_85 : decode cX7_boundDay 85 = .ok (.aload_n 0, 1) := by decide +kernel
theorem dX7_boundDay_86 : decode cX7_boundDay 86 = .ok (.getfield 26, 3) := by decide +kernel
theorem dX7_boundDay_89 : decode cX7_boundDay 89 = .ok (.iload_n 1, 1) := by decide +kernel
theorem dX7_boundDay_90 : decode cX7_boundDay 90 = .ok (.iconst 5, 1) := by decide +kernel
theorem dX7_boundDay_91 : decode cX7_boundDay 91 = .ok (.imul, 1) := by decide +kernel
theorem dX7_boundDay_92 : decode cX7_boundDay 92 = .ok (.iload_n 2, 1) := by decide +kernel
theorem dX7_boundDay_93 : decode cX7_boundDay 93 = .ok (.iadd, 1) := by decide +kernel
theorem dX7_boundDay_94 : decode cX7_boundDay 94 = .ok (.iload_n 3, 1) := by decide +kernel
theorem dX7_boundDay_95 : decode cX7_boundDay 95 = .ok (.iastore, 1) := by decide +kernel
theorem dX7_boundDay_96 : decode cX7_boundDay 96 = .ok (.iinc 2 1, 3) := by decide +kernel
theorem dX7_boundDay_99 : decode cX7_boundDay 99 = .ok (.goto (-97), 3) := by decide +kernel
theorem dX7_boundDay_102 : decode cX7_boundDay 102 = .ok (.return_, 1) := by decide +kernel
theorem dX7_fill_0 : decode cX7_fill 0 = .ok (.iload_n 1, 1) := by decide +kernel
theorem dX7_fill_1 : decode cX7_fill 1 = .ok (.bipush 7, 2) := by decide +kernel
theorem dX7_fill_3 : decode cX7_fill 3 = .ok (.if_icmp .lt 24, 3) := by decide +kernel
theorem dX7_fill_6 : decode cX7_fill 6 = .ok (.aload_n 0, 1) := by decide +kernel
theorem dX7_fill_7 : decode cX7_fill 7 = .ok (.iload_n 3, 1) := by decide +kernel
theorem dX7_fill_8 : decode cX7_fill 8 = .ok (.putfield 12, 3) := by decide +kernel
theorem dX7_fill_11 : decode cX7_fill 11 = .ok (.aload_n 0, 1) := by decide +kernel
theorem dX7_fill_12 : decode cX7_fill 12 = .ok (.getfield 20, 3) := by decide +kernel
theorem dX7_fill_15 : decode cX7_fill 15 = .ok (.iconst 0, 1) := by decide +kernel
theorem dX7_fill_16 : decode cX7_fill 16 = .ok (.aload_n 0, 1) := by decide +kernel
theorem dX7_fill_17 : decode cX7_fill 17 = .ok (.getfield 16, 3) := by decide +kernel
theorem dX7_fill_20 : decode cX7_fill 20 = .ok (.iconst 0, 1) := by decide +kernel
theorem dX7_fill_21 : decode cX7_fill 21 = .ok (.bipush 7, 2) := by decide +kernel
theorem dX7_fill_23 : decode cX7_fill 23 = .ok (.invokestatic 55, 3) := by decide +kernel
theorem dX7_fill_26 : decode cX7_fill 26 = .ok (.return_, 1) := by decide +kernel
theorem dX7_fill_27 : decode cX7_fill 27 = .ok (.iconst 0, 1) := by decide +kernel
theorem dX7_fill_28 : decode cX7_fill 28 = .ok (.istore 4, 2) := by decide +kernel
theorem dX7_fill_30 : decode cX7_fill 30 = .ok (.iload 4, 2) := by decide +kernel
theorem dX7_fill_32 : decode cX7_fill 32 = .ok (.aload_n 0, 1) := by decide +kernel
theorem dX7_fill_33 : decode cX7_fill 33 = .ok (.getfield 32, 3) := by decide +kernel
theorem dX7_fill_36 : decode cX7_fill 36 = .ok (.if_icmp .ge 114, 3) := by decide +kernel
theorem dX7_fill_39 : decode cX7_fill 39 = .ok (.iload_n 3, 1) := by decide +kernel
theorem dX7_fill_40 : decode cX7_fill 40 = .ok (.aload_n 0, 1) := by decide +kernel
theorem dX7_fill_41 : decode cX7_fill 41 = .ok (.iload 4, 2) := by decide +kernel
theorem dX7_fill_43 : decode cX7_fill 43 = .ok (.iload_n 1, 1) := by decide +kernel
theorem dX7_fill_44 : decode cX7_fill 44 = .ok (.invokevirtual 46, 3) := by decide +kernel
theorem dX7_fill_47 : decode cX7_fill 47 = .ok (.iadd, 1) := by decide +kernel
theorem dX7_fill_48 : decode cX7_fill 48 = .ok (.istore 5, 2) := by decide +kernel
theorem dX7_fill_50 : decode cX7_fill 50 = .ok (.iload 4, 2) := by decide +kernel
theorem dX7_fill_52 : decode cX7_fill 52 = .ok (.iload_n 2, 1) := by decide +kernel
theorem dX7_fill_53 : decode cX7_fill 53 = .ok (.if_icmp .eq 21, 3) := by decide +kernel
theorem dX7_fill_56 : decode cX7_fill 56 = .ok (.aload_n 0, 1) := by decide +kernel
theorem dX7_fill_57 : decode cX7_fill 57 = .ok (.getfield 23, 3) := by decide +kernel
theorem dX7_fill_60 : decode cX7_fill 60 = .ok (.iload 4, 2) := by decide +kernel
theorem dX7_fill_62 : decode cX7_fill 62 = .ok (.iaload, 1) := by decide +kernel
theorem dX7_fill_63 : decode cX7_fill 63 = .ok (.aload_n 0, 1) := by decide +kernel
theorem dX7_fill_64 : decode cX7_fill 64 = .ok (.getfield 35, 3) := by decide +kernel
theorem dX7_fill_67 : decode cX7_fill 67 = .ok (.if_icmp .ge 7, 3) := by decide +kernel
theorem dX7_fill_70 : decode cX7_fill 70 = .ok (.iconst 1, 1) := by decide +kernel
theorem dX7_fill_71 : decode cX7_fill 71 = .ok (.goto 4, 3) := by decide +kernel
theorem dX7_fill_74 : decode cX7_fill 74 = .ok (.iconst 0, 1) := by decide +kernel
theorem dX7_fill_75 : decode cX7_fill 75 = .ok (.istore 6, 2) := by decide +kernel
theorem dX7_fill_77 : decode cX7_fill 77 = .ok (.iload 6, 2) := by decide +kernel
theorem dX7_fill_79 : decode cX7_fill 79 = .ok (.ifCond .eq 65, 3) := by decide +kernel
theorem dX7_fill_82 : decode cX7_fill 82 = .ok (.iload 5, 2) := by decide +kernel
theorem dX7_fill_84 : decode cX7_fill 84 = .ok (.aload_n 0, 1) := by decide +kernel
theorem dX7_fill_85 : decode cX7_fill 85 = .ok (.getfield 26, 3) := by decide +kernel
theorem dX7_fill_88 : decode cX7_fill 88 = .ok (.iload_n 1, 1) := by decide +kernel
theorem dX7_fill_89 : decode cX7_fill 89 = .ok (.iconst 5, 1) := by decide +kernel
theorem dX7_fill_90 : decode cX7_fill 90 = .ok (.imul, 1) := by decide +kernel
theorem dX7_fill_91 : decode cX7_fill 91 = .ok (.iload 4, 2) := by decide +kernel
theorem dX7_fill_93 : decode cX7_fill 93 = .ok (.iadd, 1) := by decide +kernel
theorem dX7_fill_94 : decode cX7_fill 94 = .ok (.iaload, 1) := by decide +kernel
theorem dX7_fill_95 : decode cX7_fill 95 = .ok (.iadd, 1) := by decide +kernel
theorem dX7_fill_96 : decode cX7_fill 96 = .ok (.aload_n 0, 1) := by decide +kernel
theorem dX7_fill_97 : decode cX7_fill 97 = .ok (.getfield 12, 3) := by decide +kernel
theorem dX7_fill_100 : decode cX7_fill 100 = .ok (.if_icmp .ge 44, 3) := by decide +kernel
theorem dX7_fill_103 : decode cX7_fill 103 = .ok (.aload_n 0, 1) := by decide +kernel
theorem dX7_fill_104 : decode cX7_fill 104 = .ok (.getfield 20, 3) := by decide +kernel
theorem dX7_fill_107 : decode cX7_fill 107 = .ok (.iload_n 1, 1) := by decide +kernel
theorem dX7_fill_108 : decode cX7_fill 108 = .ok (.iload 4, 2) := by decide +kernel
theorem dX7_fill_110 : decode cX7_fill 110 = .ok (.iastore, 1) := by decide +kernel
theorem dX7_fill_111 : decode cX7_fill 111 = .ok (.aload_n 0, 1) := by decide +kernel
theorem dX7_fill_112 : decode cX7_fill 112 = .ok (.getfield 23, 3) := by decide +kernel
theorem dX7_fill_115 : decode cX7_fill 115 = .ok (.iload 4, 2) := by decide +kernel
theorem dX7_fill_117 : decode cX7_fill 117 = .ok (.dup2, 1) := by decide +kernel
theorem dX7_fill_118 : decode cX7_fill 118 = .ok (.iaload, 1) := by decide +kernel
theorem dX7_fill_119 : decode cX7_fill 119 = .ok (.iconst 1, 1) := by decide +kernel
theorem dX7_fill_120 : decode cX7_fill 120 = .ok (.iadd, 1) := by decide +kernel
theorem dX7_fill_121 : decode cX7_fill 121 = .ok (.iastore, 1) := by decide +kernel
theorem dX7_fill_122 : decode cX7_fill 122 = .ok (.aload_n 0, 1) := by decide +kernel
theorem dX7_fill_123 : decode cX7_fill 123 = .ok (.iload_n 1, 1) := by decide +kernel
theorem dX7_fill_124 : decode cX7_fill 124 = .ok (.iconst 1, 1) := by decide +kernel
theorem dX7_fill_125 : decode cX7_fill 125 = .ok (.iadd, 1) := by decide +kernel
theorem dX7_fill_126 : decode cX7_fill 126 = .ok (.iload 4, 2) := by decide +kernel
theorem dX7_fill_128 : decode cX7_fill 128 = .ok (.iload 5, 2) := by decide +kernel
theorem dX7_fill_130 : decode cX7_fill 130 = .ok (.invokevirtual 42, 3) := by decide +kernel
theorem dX7_fill_133 : decode cX7_fill 133 = .ok (.aload_n 0, 1) := by decide +kernel
theorem dX7_fill_134 : decode cX7_fill 134 = .ok (.getfield 23, 3) := by decide +kernel
theorem dX7_fill_137 : decode cX7_fill 137 = .ok (.iload 4, 2) := by decide +kernel
theorem dX7_fill_139 : decode cX7_fill 139 = .ok (.dup2, 1) := by decide +kernel
theorem dX7_fill_140 : decode cX7_fill 140 = .ok (.iaload, 1) := by decide +kernel
theorem dX7_fill_141 : decode cX7_fill 141 = .ok (.iconst 1, 1) := by decide +kernel
theorem dX7_fill_142 : decode cX7_fill 142 = .ok (.isub, 1) := by decide +kernel
theorem dX7_fill_143 : decode cX7_fill 143 = .ok (.iastore, 1) := by decide +kernel
theorem dX7_fill_144 : decode cX7_fill 144 = .ok (.iinc 4 1, 3) := by decide +kernel
theorem dX7_fill_147 : decode cX7_fill 147 = .ok (.goto (-117), 3) := by decide +kernel
theorem dX7_fill_150 : decode cX7_fill 150 = .ok (.return_, 1) := by decide +kernel
theorem dX8_init_0 : decode cX8_init 0 = .ok (.aload_n 0, 1) := by decide +kernel
theorem dX8_init_1 : decode cX8_init 1 = .ok (.invokespecial 3, 3) := by decide +kernel
theorem dX8_init_4 : decode cX8_init 4 = .ok (.aload_n 0, 1) := by decide +kernel
theorem dX8_init_5 : decode cX8_init 5 = .ok (.iload_n 1, 1) := by decide +kernel
theorem dX8_init_6 : decode cX8_init 6 = .ok (.bipush 117, 2) := by decide +kernel
theorem dX8_init_8 : decode cX8_init 8 = .ok (.invokestatic 9, 3) := by decide +kernel
theorem dX8_init_11 : decode cX8_init 11 = .ok (.newarray .int, 2) := by decide +kernel
theorem dX8_init_13 : decode cX8_init 13 = .ok (.putfield 15, 3) := by decide +kernel
theorem dX8_init_16 : decode cX8_init 16 = .ok (.aload_n 0, 1) := by decide +kernel
theorem dX8_init_17 : decode cX8_init 17 = .ok (.aload_n 2, 1) := by decide +kernel
theorem dX8_init_18 : decode cX8_init 18 = .ok (.putfield 21, 3) := by decide +kernel
theorem dX8_init_21 : decode cX8_init 21 = .ok (.aload_n 0, 1) := by decide +kernel
theorem dX8_init_22 : decode cX8_init 22 = .ok (.aload_n 3, 1) := by decide +kernel
theorem dX8_init_23 : decode cX8_init 23 = .ok (.putfield 25, 3) := by decide +kernel
theorem dX8_init_26 : decode cX8_init 26 = .ok (.return_, 1) := by decide +kernel
theorem dX8_open_0 : decode cX8_open 0 = .ok (.ldc 31, 2) := by decide +kernel
theorem dX8_open_2 : decode cX8_open 2 = .ok (.aload_n 0, 1) := by decide +kernel
theorem dX8_open_3 : decode cX8_open 3 = .ok (.getfield 15, 3) := by decide +kernel
theorem dX8_open_6 : decode cX8_open 6 = .ok (.bipush 85, 2) := by decide +kernel
theorem dX8_open_8 : decode cX8_open 8 = .ok (.iaload, 1) := by decide +kernel
theorem dX8_open_9 : decode cX8_open 9 = .ok (.iconst (-1), 1) := by decide +kernel
theorem dX8_open_10 : decode cX8_open 10 = .ok (.ixor, 1) := by decide +kernel
theorem dX8_open_11 : decode cX8_open 11 = .ok (.iand, 1) := by decide +kernel
theorem dX8_open_12 : decode cX8_open 12 = .ok (.ireturn, 1) := by decide +kernel
theorem dX8_isOpen_0 : decode cX8_isOpen 0 = .ok (.iload_n 1, 1) := by decide +kernel
theorem dX8_isOpen_1 : decode cX8_isOpen 1 = .ok (.invokestatic 32, 3) := by decide +kernel
theorem dX8_isOpen_4 : decode cX8_isOpen 4 = .ok (.ifCond .eq 21, 3) := by decide +kernel
theorem dX8_isOpen_7 : decode cX8_isOpen 7 = .ok (.aload_n 0, 1) := by decide +kernel
theorem dX8_isOpen_8 : decode cX8_isOpen 8 = .ok (.getfield 15, 3) := by decide +kernel
theorem dX8_isOpen_11 : decode cX8_isOpen 11 = .ok (.bipush 85, 2) := by decide +kernel
theorem dX8_isOpen_13 : decode cX8_isOpen 13 = .ok (.iaload, 1) := by decide +kernel
theorem dX8_isOpen_14 : decode cX8_isOpen 14 = .ok (.iload_n 1, 1) := by decide +kernel
theorem dX8_isOpen_15 : decode cX8_isOpen 15 = .ok (.iushr, 1) := by decide +kernel
theorem dX8_isOpen_16 : decode cX8_isOpen 16 = .ok (.iconst 1, 1) := by decide +kernel
theorem dX8_isOpen_17 : decode cX8_isOpen 17 = .ok (.iand, 1) := by decide +kernel
theorem dX8_isOpen_18 : decode cX8_isOpen 18 = .ok (.ifCond .ne 7, 3) := by decide +kernel
theorem dX8_isOpen_21 : decode cX8_isOpen 21 = .ok (.iconst 1, 1) := by decide +kernel
theorem dX8_isOpen_22 : decode cX8_isOpen 22 = .ok (.goto 4, 3) := by decide +kernel
theorem dX8_isOpen_25 : decode cX8_isOpen 25 = .ok (.iconst 0, 1) := by decide +kernel
theorem dX8_isOpen_26 : decode cX8_isOpen 26 = .ok (.ireturn, 1) := by decide +kernel
theorem dX8_peopleIn_0 : decode cX8_peopleIn 0 = .ok (.iconst 0, 1) := by decide +kernel
theorem dX8_peopleIn_1 : decode cX8_peopleIn 1 = .ok (.istore_n 2, 1) := by decide +kernel
theorem dX8_peopleIn_2 : decode cX8_peopleIn 2 = .ok (.iconst 0, 1) := by decide +kernel
theorem dX8_peopleIn_3 : decode cX8_peopleIn 3 = .ok (.istore_n 3, 1) := by decide +kernel
theorem dX8_peopleIn_4 : decode cX8_peopleIn 4 = .ok (.iload_n 3, 1) := by decide +kernel
theorem dX8_peopleIn_5 : decode cX8_peopleIn 5 = .ok (.aload_n 0, 1) := by decide +kernel
theorem dX8_peopleIn_6 : decode cX8_peopleIn 6 = .ok (.getfield 15, 3) := by decide +kernel
theorem dX8_peopleIn_9 : decode cX8_peopleIn 9 = .ok (.bipush 84, 2) := by decide +kernel
theorem dX8_peopleIn_11 : decode cX8_peopleIn 11 = .ok (.iaload, 1) := by decide +kernel
theorem dX8_peopleIn_12 : decode cX8_peopleIn 12 = .ok (.if_icmp .ge 27, 3) := by decide +kernel
theorem dX8_peopleIn_15 : decode cX8_peopleIn 15 = .ok (.aload_n 0, 1) := by decide +kernel
theorem dX8_peopleIn_16 : decode cX8_peopleIn 16 = .ok (.getfield 15, 3) := by decide +kernel
theorem dX8_peopleIn_19 : decode cX8_peopleIn 19 = .ok (.iconst 0, 1) := by decide +kernel
theorem dX8_peopleIn_20 : decode cX8_peopleIn 20 = .ok (.iload_n 3, 1) := by decide +kernel
theorem dX8_peopleIn_21 : decode cX8_peopleIn 21 = .ok (.iadd, 1) := by decide +kernel
theorem dX8_peopleIn_22 : decode cX8_peopleIn 22 = .ok (.iaload, 1) := by decide +kernel
theorem dX8_peopleIn_23 : decode cX8_peopleIn 23 = .ok (.iload_n 1, 1) := by decide +kernel
theorem dX8_peopleIn_24 : decode cX8_peopleIn 24 = .ok (.if_icmp .ne 9, 3) := by decide +kernel
theorem dX8_peopleIn_27 : decode cX8_peopleIn 27 = .ok (.iload_n 2, 1) := by decide +kernel
theorem dX8_peopleIn_28 : decode cX8_peopleIn 28 = .ok (.iconst 1, 1) := by decide +kernel
theorem dX8_peopleIn_29 : decode cX8_peopleIn 29 = .ok (.iload_n 3, 1) := by decide +kernel
theorem dX8_peopleIn_30 : decode cX8_peopleIn 30 = .ok (.ishl, 1) := by decide +kernel
theorem dX8_peopleIn_31 : decode cX8_peopleIn 31 = .ok (.ior, 1) := by decide +kernel
theorem dX8_peopleIn_32 : decode cX8_peopleIn 32 = .ok (.istore_n 2, 1) := by decide +kernel
theorem dX8_peopleIn_33 : decode cX8_peopleIn 33 = .ok (.iinc 3 1, 3) := by decide +kernel
theorem dX8_peopleIn_36 : decode cX8_peopleIn 36 = .ok (.goto (-32), 3) := by decide +kernel
theorem dX8_peopleIn_39 : decode cX8_peopleIn 39 = .ok (.iload_n 2, 1) := by decide +kernel
theorem dX8_peopleIn_40 : decode cX8_peopleIn 40 = .ok (.ireturn, 1) := by decide +kernel
theorem dX8_canWalk_0 : decode cX8_canWalk 0 = .ok (.aload_n 0, 1) := by decide +kernel
theorem dX8_canWalk_1 : decode cX8_canWalk 1 = .ok (.iload_n 2, 1) := by decide +kernel
theorem dX8_canWalk_2 : decode cX8_canWalk 2 = .ok (.invokevirtual 36, 3) := by decide +kernel
theorem dX8_canWalk_5 : decode cX8_canWalk 5 = .ok (.ifCond .eq 27, 3) := by decide +kernel
theorem dX8_canWalk_8 : decode cX8_canWalk 8 = .ok (.iconst 1, 1) := by decide +kernel
theorem dX8_canWalk_9 : decode cX8_canWalk 9 = .ok (.aload_n 0, 1) := by decide +kernel
theorem dX8_canWalk_10 : decode cX8_canWalk 10 = .ok (.getfield 15, 3) := by decide +kernel
theorem dX8_canWalk_13 : decode cX8_canWalk 13 = .ok (.iconst 0, 1) := by decide +kernel
theorem dX8_canWalk_14 : decode cX8_canWalk 14 = .ok (.iload_n 1, 1) := by decide +kernel
theorem dX8_canWalk_15 : decode cX8_canWalk 15 = .ok (.iadd, 1) := by decide +kernel
theorem dX8_canWalk_16 : decode cX8_canWalk 16 = .ok (.iaload, 1) := by decide +kernel
theorem dX8_canWalk_17 : decode cX8_canWalk 17 = .ok (.ishl, 1) := by decide +kernel
theorem dX8_canWalk_18 : decode cX8_canWalk 18 = .ok (.invokestatic 39, 3) := by decide +kernel
theorem dX8_canWalk_21 : decode cX8_canWalk 21 = .ok (.iload_n 2, 1) := by decide +kernel
theorem dX8_canWalk_22 : decode cX8_canWalk 22 = .ok (.invokestatic 43, 3) := by decide +kernel
theorem dX8_canWalk_25 : decode cX8_canWalk 25 = .ok (.ifCond .eq 7, 3) := by decide +kernel
theorem dX8_canWalk_28 : decode cX8_canWalk 28 = .ok (.iconst 1, 1) := by decide +kernel
theorem dX8_canWalk_29 : decode cX8_canWalk 29 = .ok (.goto 4, 3) := by decide +kernel
theorem dX8_canWalk_32 : decode cX8_canWalk 32 = .ok (.iconst 0, 1) := by decide +kernel
theorem dX8_canWalk_33 : decode cX8_canWalk 33 = .ok (.ireturn, 1) := by decide +kernel
theorem dX8_canPass_0 : decode cX8_canPass 0 = .ok (.aload_n 0, 1) := by decide +kernel
theorem dX8_canPass_1 : decode cX8_canPass 1 = .ok (.getfield 15, 3) := by decide +kernel
theorem dX8_canPass_4 : decode cX8_canPass 4 = .ok (.bipush 51, 2) := by decide +kernel
theorem dX8_canPass_6 : decode cX8_canPass 6 = .ok (.iaload, 1) := by decide +kernel
theorem dX8_canPass_7 : decode cX8_canPass 7 = .ok (.sipush 9999, 3) := by decide +kernel
theorem dX8_canPass_10 : decode cX8_canPass 10 = .ok (.if_icmp .ge 7, 3) := by decide +kernel
theorem dX8_canPass_13 : decode cX8_canPass 13 = .ok (.iconst 1, 1) := by decide +kernel
theorem dX8_canPass_14 : decode cX8_canPass 14 = .ok (.goto 4, 3) := by decide +kernel
theorem dX8_canPass_17 : decode cX8_canPass 17 = .ok (.iconst 0, 1) := by decide +kernel
theorem dX8_canPass_18 : decode cX8_canPass 18 = .ok (.ireturn, 1) := by decide +kernel
theorem dX8_nextX_0 : decode cX8_nextX 0 = .ok (.aload_n 0, 1) := by decide +kernel
theorem dX8_nextX_1 : decode cX8_nextX 1 = .ok (.getfield 15, 3) := by decide +kernel
theorem dX8_nextX_4 : decode cX8_nextX 4 = .ok (.bipush 52, 2) := by decide +kernel
theorem dX8_nextX_6 : decode cX8_nextX 6 = .ok (.iaload, 1) := by decide +kernel
theorem dX8_nextX_7 : decode cX8_nextX 7 = .ok (.istore_n 1, 1) := by decide +kernel
theorem dX8_nextX_8 : decode cX8_nextX 8 = .ok (.aload_n 0, 1) := by decide +kernel
theorem dX8_nextX_9 : decode cX8_nextX 9 = .ok (.getfield 15, 3) := by decide +kernel
theorem dX8_nextX_12 : decode cX8_nextX 12 = .ok (.bipush 52, 2) := by decide +kernel
theorem dX8_nextX_14 : decode cX8_nextX 14 = .ok (.iload_n 1, 1) := by decide +kernel
theorem dX8_nextX_15 : decode cX8_nextX 15 = .ok (.sipush 487, 3) := by decide +kernel
theorem dX8_nextX_18 : decode cX8_nextX 18 = .ok (.imul, 1) := by decide +kernel
theorem dX8_nextX_19 : decode cX8_nextX 19 = .ok (.sipush 373, 3) := by decide +kernel
theorem dX8_nextX_22 : decode cX8_nextX 22 = .ok (.iadd, 1) := by decide +kernel
theorem dX8_nextX_23 : decode cX8_nextX 23 = .ok (.sipush 30671, 3) := by decide +kernel
theorem dX8_nextX_26 : decode cX8_nextX 26 = .ok (.irem, 1) := by decide +kernel
theorem dX8_nextX_27 : decode cX8_nextX 27 = .ok (.iastore, 1) := by decide +kernel
theorem dX8_nextX_28 : decode cX8_nextX 28 = .ok (.iload_n 1, 1) := by decide +kernel
theorem dX8_nextX_29 : decode cX8_nextX 29 = .ok (.ireturn, 1) := by decide +kernel
theorem dX8_stepsTo_0 : decode cX8_stepsTo 0 = .ok (.aload_n 0, 1) := by decide +kernel
theorem dX8_stepsTo_1 : decode cX8_stepsTo 1 = .ok (.getfield 15, 3) := by decide +kernel
theorem dX8_stepsTo_4 : decode cX8_stepsTo 4 = .ok (.bipush 50, 2) := by decide +kernel
theorem dX8_stepsTo_6 : decode cX8_stepsTo 6 = .ok (.iaload, 1) := by decide +kernel
theorem dX8_stepsTo_7 : decode cX8_stepsTo 7 = .ok (.aload_n 0, 1) := by decide +kernel
theorem dX8_stepsTo_8 : decode cX8_stepsTo 8 = .ok (.getfield 15, 3) := by decide +kernel
theorem dX8_stepsTo_11 : decode cX8_stepsTo 11 = .ok (.iconst 0, 1) := by decide +kernel
theorem dX8_stepsTo_12 : decode cX8_stepsTo 12 = .ok (.iload_n 1, 1) := by decide +kernel
theorem dX8_stepsTo_13 : decode cX8_stepsTo 13 = .ok (.iadd, 1) := by decide +kernel
theorem dX8_stepsTo_14 : decode cX8_stepsTo 14 = .ok (.iaload, 1) := by decide +kernel
theorem dX8_stepsTo_15 : decode cX8_stepsTo 15 = .ok (.aload_n 0, 1) := by decide +kernel
theorem dX8_stepsTo_16 : decode cX8_stepsTo 16 = .ok (.invokevirtual 47, 3) := by decide +kernel
theorem dX8_stepsTo_19 : decode cX8_stepsTo 19 = .ok (.invokestatic 51, 3) := by decide +kernel
theorem dX8_stepsTo_22 : decode cX8_stepsTo 22 = .ok (.ireturn, 1) := by decide +kernel
theorem dX8_wantsBy_0 : decode cX8_wantsBy 0 = .ok (.iload_n 3, 1) := by decide +kernel
theorem dX8_wantsBy_1 : decode cX8_wantsBy 1 = .ok (.iconst (-1), 1) := by decide +kernel
theorem dX8_wantsBy_2 : decode cX8_wantsBy 2 = .ok (.if_icmp .ne 8, 3) := by decide +kernel
theorem dX8_wantsBy_5 : decode cX8_wantsBy 5 = .ok (.bipush 99, 2) := by decide +kernel
theorem dX8_wantsBy_7 : decode cX8_wantsBy 7 = .ok (.goto 4, 3) := by decide +kernel
theorem dX8_wantsBy_10 : decode cX8_wantsBy 10 = .ok (.iload_n 3, 1) := by decide +kernel
theorem dX8_wantsBy_11 : decode cX8_wantsBy 11 = .ok (.istore 4, 2) := by decide +kernel
theorem dX8_wantsBy_13 : decode cX8_wantsBy 13 = .ok (.iload_n 1, 1) := by decide +kernel
theorem dX8_wantsBy_14 : decode cX8_wantsBy 14 = .ok (.iconst (-1), 1) := by decide +kernel
theorem dX8_wantsBy_15 : decode cX8_wantsBy 15 = .ok (.if_icmp .eq 16, 3) := by decide +kernel
theorem dX8_wantsBy_18 : decode cX8_wantsBy 18 = .ok (.aload_n 0, 1) := by decide +kernel
theorem dX8_wantsBy_19 : decode cX8_wantsBy 19 = .ok (.getfield 21, 3) := by decide +kernel
theorem dX8_wantsBy_22 : decode cX8_wantsBy 22 = .ok (.iload_n 1, 1) := by decide +kernel
theorem dX8_wantsBy_23 : decode cX8_wantsBy 23 = .ok (.aaload, 1) := by decide +kernel
theorem dX8_wantsBy_24 : decode cX8_wantsBy 24 = .ok (.getfield 55, 3) := by decide +kernel
theorem dX8_wantsBy_27 : decode cX8_wantsBy 27 = .ok (.iconst (-1), 1) := by decide +kernel
theorem dX8_wantsBy_28 : decode cX8_wantsBy 28 = .ok (.if_icmp .ne 9, 3) := by decide +kernel
theorem dX8_wantsBy_31 : decode cX8_wantsBy 31 = .ok (.bipush 99, 2) := by decide +kernel
theorem dX8_wantsBy_33 : decode cX8_wantsBy 33 = .ok (.iload 4, 2) := by decide +kernel
theorem dX8_wantsBy_35 : decode cX8_wantsBy 35 = .ok (.isub, 1) := by decide +kernel
theorem dX8_wantsBy_36 : decode cX8_wantsBy 36 = .ok (.ireturn, 1) := by decide +kernel
theorem dX8_wantsBy_37 : decode cX8_wantsBy 37 = .ok (.aload_n 0, 1) := by decide +kernel
theorem dX8_wantsBy_38 : decode cX8_wantsBy 38 = .ok (.getfield 25, 3) := by decide +kernel
theorem dX8_wantsBy_41 : decode cX8_wantsBy 41 = .ok (.aload_n 0, 1) := by decide +kernel
theorem dX8_wantsBy_42 : decode cX8_wantsBy 42 = .ok (.getfield 21, 3) := by decide +kernel
theorem dX8_wantsBy_45 : decode cX8_wantsBy 45 = .ok (.iload_n 1, 1) := by decide +kernel
theorem dX8_wantsBy_46 : decode cX8_wantsBy 46 = .ok (.aaload, 1) := by decide +kernel
theorem dX8_wantsBy_47 : decode cX8_wantsBy 47 = .ok (.aload_n 0, 1) := by decide +kernel
theorem dX8_wantsBy_48 : decode cX8_wantsBy 48 = .ok (.getfield 21, 3) := by decide +kernel
theorem dX8_wantsBy_51 : decode cX8_wantsBy 51 = .ok (.iload_n 1, 1) := by decide +kernel
theorem dX8_wantsBy_52 : decode cX8_wantsBy 52 = .ok (.aaload, 1) := by decide +kernel
theorem dX8_wantsBy_53 : decode cX8_wantsBy 53 = .ok (.getfield 55, 3) := by decide +kernel
theorem dX8_wantsBy_56 : decode cX8_wantsBy 56 = .ok (.aload_n 0, 1) := by decide +kernel
theorem dX8_wantsBy_57 : decode cX8_wantsBy 57 = .ok (.getfield 15, 3) := by decide +kernel
theorem dX8_wantsBy_60 : decode cX8_wantsBy 60 = .ok (.iload_n 2, 1) := by decide +kernel
theorem dX8_wantsBy_61 : decode cX8_wantsBy 61 = .ok (.iload 4, 2) := by decide +kernel
theorem dX8_wantsBy_63 : decode cX8_wantsBy 63 = .ok (.invokevirtual 61, 3) := by decide +kernel
theorem dX8_wantsBy_66 : decode cX8_wantsBy 66 = .ok (.istore 5, 2) := by decide +kernel
theorem dX8_wantsBy_68 : decode cX8_wantsBy 68 = .ok (.sipush (-999), 3) := by decide +kernel
theorem dX8_wantsBy_71 : decode cX8_wantsBy 71 = .ok (.sipush 999, 3) := by decide +kernel
theorem dX8_wantsBy_74 : decode cX8_wantsBy 74 = .ok (.iload 5, 2) := by decide +kernel
theorem dX8_wantsBy_76 : decode cX8_wantsBy 76 = .ok (.invokestatic 67, 3) := by decide +kernel
theorem dX8_wantsBy_79 : decode cX8_wantsBy 79 = .ok (.invokestatic 9, 3) := by decide +kernel
theorem dX8_wantsBy_82 : decode cX8_wantsBy 82 = .ok (.ireturn, 1) := by decide +kernel
theorem dX8_poursOn_0 : decode cX8_poursOn 0 = .ok (.aload_n 0, 1) := by decide +kernel
theorem dX8_poursOn_1 : decode cX8_poursOn 1 = .ok (.getfield 15, 3) := by decide +kernel
theorem dX8_poursOn_4 : decode cX8_poursOn 4 = .ok (.bipush 116, 2) := by decide +kernel
theorem dX8_poursOn_6 : decode cX8_poursOn 6 = .ok (.iaload, 1) := by decide +kernel
theorem dX8_poursOn_7 : decode cX8_poursOn 7 = .ok (.istore_n 2, 1) := by decide +kernel
theorem dX8_poursOn_8 : decode cX8_poursOn 8 = .ok (.iload_n 2, 1) := by decide +kernel
theorem dX8_poursOn_9 : decode cX8_poursOn 9 = .ok (.iconst (-1), 1) := by decide +kernel
theorem dX8_poursOn_10 : decode cX8_poursOn 10 = .ok (.if_icmp .eq 16, 3) := by decide +kernel
theorem dX8_poursOn_13 : decode cX8_poursOn 13 = .ok (.aload_n 0, 1) := by decide +kernel
theorem dX8_poursOn_14 : decode cX8_poursOn 14 = .ok (.getfield 21, 3) := by decide +kernel
theorem dX8_poursOn_17 : decode cX8_poursOn 17 = .ok (.iload_n 2, 1) := by decide +kernel
theorem dX8_poursOn_18 : decode cX8_poursOn 18 = .ok (.aaload, 1) := by decide +kernel
theorem dX8_poursOn_19 : decode cX8_poursOn 19 = .ok (.getfield 70, 3) := by decide +kernel
theorem dX8_poursOn_22 : decode cX8_poursOn 22 = .ok (.iconst (-1), 1) := by decide +kernel
theorem dX8_poursOn_23 : decode cX8_poursOn 23 = .ok (.if_icmp .ne 5, 3) := by decide +kernel
theorem dX8_poursOn_26 : decode cX8_poursOn 26 = .ok (.iconst 3, 1) := by decide +kernel
theorem dX8_poursOn_27 : decode cX8_poursOn 27 = .ok (.ireturn, 1) := by decide +kernel
theorem dX8_poursOn_28 : decode cX8_poursOn 28 = .ok (.aload_n 0, 1) := by decide +kernel
theorem dX8_poursOn_29 : decode cX8_poursOn 29 = .ok (.getfield 25, 3) := by decide +kernel
theorem dX8_poursOn_32 : decode cX8_poursOn 32 = .ok (.aload_n 0, 1) := by decide +kernel
theorem dX8_poursOn_33 : decode cX8_poursOn 33 = .ok (.getfield 21, 3) := by decide +kernel
theorem dX8_poursOn_36 : decode cX8_poursOn 36 = .ok (.iload_n 2, 1) := by decide +kernel
theorem dX8_poursOn_37 : decode cX8_poursOn 37 = .ok (.aaload, 1) := by decide +kernel
theorem dX8_poursOn_38 : decode cX8_poursOn 38 = .ok (.aload_n 0, 1) := by decide +kernel
theorem dX8_poursOn_39 : decode cX8_poursOn 39 = .ok (.getfield 21, 3) := by decide +kernel
theorem dX8_poursOn_42 : decode cX8_poursOn 42 = .ok (.iload_n 2, 1) := by decide +kernel
theorem dX8_poursOn_43 : decode cX8_poursOn 43 = .ok (.aaload, 1) := by decide +kernel
theorem dX8_poursOn_44 : decode cX8_poursOn 44 = .ok (.getfield 70, 3) := by decide +kernel
theorem dX8_poursOn_47 : decode cX8_poursOn 47 = .ok (.aload_n 0, 1) := by decide +kernel
theorem dX8_poursOn_48 : decode cX8_poursOn 48 = .ok (.getfield 15, 3) := by decide +kernel
theorem dX8_poursOn_51 : decode cX8_poursOn 51 = .ok (.iload_n 1, 1) := by decide +kernel
theorem dX8_poursOn_52 : decode cX8_poursOn 52 = .ok (.bipush 99, 2) := by decide +kernel
theorem dX8_poursOn_54 : decode cX8_poursOn 54 = .ok (.invokevirtual 61, 3) := by decide +kernel
theorem dX8_poursOn_57 : decode cX8_poursOn 57 = .ok (.istore_n 3, 1) := by decide +kernel
theorem dX8_poursOn_58 : decode cX8_poursOn 58 = .ok (.iconst 0, 1) := by decide +kernel
theorem dX8_poursOn_59 : decode cX8_poursOn 59 = .ok (.bipush 9, 2) := by decide +kernel
theorem dX8_poursOn_61 : decode cX8_poursOn 61 = .ok (.iload_n 3, 1) := by decide +kernel
theorem dX8_poursOn_62 : decode cX8_poursOn 62 = .ok (.invokestatic 67, 3) := by decide +kernel
theorem dX8_poursOn_65 : decode cX8_poursOn 65 = .ok (.invokestatic 9, 3) := by decide +kernel
theorem dX8_poursOn_68 : decode cX8_poursOn 68 = .ok (.ireturn, 1) := by decide +kernel
theorem dX8_goal_0 : decode cX8_goal 0 = .ok (.iconst (-1), 1) := by decide +kernel
theorem dX8_goal_1 : decode cX8_goal 1 = .ok (.istore_n 1, 1) := by decide +kernel
theorem dX8_goal_2 : decode cX8_goal 2 = .ok (.iconst 0, 1) := by decide +kernel
theorem dX8_goal_3 : decode cX8_goal 3 = .ok (.istore_n 2, 1) := by decide +kernel
theorem dX8_goal_4 : decode cX8_goal 4 = .ok (.aload_n 0, 1) := by decide +kernel
theorem dX8_goal_5 : decode cX8_goal 5 = .ok (.invokevirtual 47, 3) := by decide +kernel
theorem dX8_goal_8 : decode cX8_goal 8 = .ok (.istore_n 3, 1) := by decide +kernel
theorem dX8_goal_9 : decode cX8_goal 9 = .ok (.iconst 0, 1) := by decide +kernel
theorem dX8_goal_10 : decode cX8_goal 10 = .ok (.istore 4, 2) := by decide +kernel
theorem dX8_goal_12 : decode cX8_goal 12 = .ok (.iload 4, 2) := by decide +kernel
theorem dX8_goal_14 : decode cX8_goal 14 = .ok (.aload_n 0, 1) := by decide +kernel
theorem dX8_goal_15 : decode cX8_goal 15 = .ok (.getfield 15, 3) := by decide +kernel
theorem dX8_goal_18 : decode cX8_goal 18 = .ok (.bipush 84, 2) := by decide +kernel
theorem dX8_goal_20 : decode cX8_goal 20 = .ok (.iaload, 1) := by decide +kernel
theorem dX8_goal_21 : decode cX8_goal 21 = .ok (.if_icmp .ge 84, 3) := by decide +kernel
theorem dX8_goal_24 : decode cX8_goal 24 = .ok (.aload_n 0, 1) := by decide +kernel
theorem dX8_goal_25 : decode cX8_goal 25 = .ok (.getfield 15, 3) := by decide +kernel
theorem dX8_goal_28 : decode cX8_goal 28 = .ok (.bipush 50, 2) := by decide +kernel
theorem dX8_goal_30 : decode cX8_goal 30 = .ok (.iaload, 1) := by decide +kernel
theorem dX8_goal_31 : decode cX8_goal 31 = .ok (.aload_n 0, 1) := by decide +kernel
theorem dX8_goal_32 : decode cX8_goal 32 = .ok (.getfield 15, 3) := by decide +kernel
theorem dX8_goal_35 : decode cX8_goal 35 = .ok (.iconst 0, 1) := by decide +kernel
theorem dX8_goal_36 : decode cX8_goal 36 = .ok (.iload 4, 2) := by decide +kernel
theorem dX8_goal_38 : decode cX8_goal 38 = .ok (.iadd, 1) := by decide +kernel
theorem dX8_goal_39 : decode cX8_goal 39 = .ok (.iaload, 1) := by decide +kernel
theorem dX8_goal_40 : decode cX8_goal 40 = .ok (.iload_n 3, 1) := by decide +kernel
theorem dX8_goal_41 : decode cX8_goal 41 = .ok (.invokestatic 51, 3) := by decide +kernel
theorem dX8_goal_44 : decode cX8_goal 44 = .ok (.istore 5, 2) := by decide +kernel
theorem dX8_goal_46 : decode cX8_goal 46 = .ok (.aload_n 0, 1) := by decide +kernel
theorem dX8_goal_47 : decode cX8_goal 47 = .ok (.getfield 15, 3) := by decide +kernel
theorem dX8_goal_50 : decode cX8_goal 50 = .ok (.iconst 5, 1) := by decide +kernel
theorem dX8_goal_51 : decode cX8_goal 51 = .ok (.iload 4, 2) := by decide +kernel
theorem dX8_goal_53 : decode cX8_goal 53 = .ok (.iadd, 1) := by decide +kernel
theorem dX8_goal_54 : decode cX8_goal 54 = .ok (.iaload, 1) := by decide +kernel
theorem dX8_goal_55 : decode cX8_goal 55 = .ok (.iconst 1, 1) := by decide +kernel
theorem dX8_goal_56 : decode cX8_goal 56 = .ok (.if_icmp .ne 43, 3) := by decide +kernel
theorem dX8_goal_59 : decode cX8_goal 59 = .ok (.iload 5, 2) := by decide +kernel
theorem dX8_goal_61 : decode cX8_goal 61 = .ok (.iconst (-1), 1) := by decide +kernel
theorem dX8_goal_62 : decode cX8_goal 62 = .ok (.if_icmp .eq 37, 3) := by decide +kernel
theorem dX8_goal_65 : decode cX8_goal 65 = .ok (.aload_n 0, 1) := by decide +kernel
theorem dX8_goal_66 : decode cX8_goal 66 = .ok (.aload_n 0, 1) := by decide +kernel
theorem dX8_goal_67 : decode cX8_goal 67 = .ok (.getfield 15, 3) := by decide +kernel
theorem dX8_goal_70 : decode cX8_goal 70 = .ok (.bipush 116, 2) := by decide +kernel
theorem dX8_goal_72 : decode cX8_goal 72 = .ok (.iaload, 1) := by decide +kernel
theorem dX8_goal_73 : decode cX8_goal 73 = .ok (.iload 4, 2) := by decide +kernel
theorem dX8_goal_75 : decode cX8_goal 75 = .ok (.iload 5, 2) := by decide +kernel
theorem dX8_goal_77 : decode cX8_goal 77 = .ok (.invokevirtual 73, 3) := by decide +kernel
theorem dX8_goal_80 : decode cX8_goal 80 = .ok (.istore 6, 2) := by decide +kernel
theorem dX8_goal_82 : decode cX8_goal 82 = .ok (.iload_n 1, 1) := by decide +kernel
theorem dX8_goal_83 : decode cX8_goal 83 = .ok (.iconst (-1), 1) := by decide +kernel
theorem dX8_goal_84 : decode cX8_goal 84 = .ok (.if_icmp .eq 9, 3) := by decide +kernel
theorem dX8_goal_87 : decode cX8_goal 87 = .ok (.iload 6, 2) := by decide +kernel
theorem dX8_goal_89 : decode cX8_goal 89 = .ok (.iload_n 2, 1) := by decide +kernel
theorem dX8_goal_90 : decode cX8_goal 90 = .ok (.if_icmp .le 9, 3) := by decide +kernel
theorem dX8_goal_93 : decode cX8_goal 93 = .ok (.iload 6, 2) := by decide +kernel
theorem dX8_goal_95 : decode cX8_goal 95 = .ok (.istore_n 2, 1) := by decide +kernel
theorem dX8_goal_96 : decode cX8_goal 96 = .ok (.iload 4, 2) := by decide +kernel
theorem dX8_goal_98 : decode cX8_goal 98 = .ok (.istore_n 1, 1) := by decide +kernel
theorem dX8_goal_99 : decode cX8_goal 99 = .ok (.iinc 4 1, 3) := by decide +kernel
theorem dX8_goal_102 : decode cX8_goal 102 = .ok (.goto (-90), 3) := by decide +kernel
theorem dX8_goal_105 : decode cX8_goal 105 = .ok (.iload_n 1, 1) := by decide +kernel
theorem dX8_goal_106 : decode cX8_goal 106 = .ok (.ireturn, 1) := by decide +kernel
theorem dX8_passOne_0 : decode cX8_passOne 0 = .ok (.aload_n 0, 1) := by decide +kernel
theorem dX8_passOne_1 : decode cX8_passOne 1 = .ok (.invokevirtual 76, 3) := by decide +kernel
theorem dX8_passOne_4 : decode cX8_passOne 4 = .ok (.istore_n 1, 1) := by decide +kernel
theorem dX8_passOne_5 : decode cX8_passOne 5 = .ok (.iconst (-1), 1) := by decide +kernel
theorem dX8_passOne_6 : decode cX8_passOne 6 = .ok (.istore_n 2, 1) := by decide +kernel
theorem dX8_passOne_7 : decode cX8_passOne 7 = .ok (.iload_n 1, 1) := by decide +kernel
theorem dX8_passOne_8 : decode cX8_passOne 8 = .ok (.iconst (-1), 1) := by decide +kernel
theorem dX8_passOne_9 : decode cX8_passOne 9 = .ok (.if_icmp .ne 49, 3) := by decide +kernel
theorem dX8_passOne_12 : decode cX8_passOne 12 = .ok (.aload_n 0, 1) := by decide +kernel
theorem dX8_passOne_13 : decode cX8_passOne 13 = .ok (.getfield 15, 3) := by decide +kernel
theorem dX8_passOne_16 : decode cX8_passOne 16 = .ok (.bipush 50, 2) := by decide +kernel
theorem dX8_passOne_18 : decode cX8_passOne 18 = .ok (.iaload, 1) := by decide +kernel
theorem dX8_passOne_19 : decode cX8_passOne 19 = .ok (.aload_n 0, 1) := by decide +kernel
theorem dX8_passOne_20 : decode cX8_passOne 20 = .ok (.invokevirtual 79, 3) := by decide +kernel
theorem dX8_passOne_23 : decode cX8_passOne 23 = .ok (.iconst 4, 1) := by decide +kernel
theorem dX8_passOne_24 : decode cX8_passOne 24 = .ok (.irem, 1) := by decide +kernel
theorem dX8_passOne_25 : decode cX8_passOne 25 = .ok (.invokestatic 82, 3) := by decide +kernel
theorem dX8_passOne_28 : decode cX8_passOne 28 = .ok (.istore_n 3, 1) := by decide +kernel
theorem dX8_passOne_29 : decode cX8_passOne 29 = .ok (.aload_n 0, 1) := by decide +kernel
theorem dX8_passOne_30 : decode cX8_passOne 30 = .ok (.getfield 15, 3) := by decide +kernel
theorem dX8_passOne_33 : decode cX8_passOne 33 = .ok (.bipush 50, 2) := by decide +kernel
theorem dX8_passOne_35 : decode cX8_passOne 35 = .ok (.aload_n 0, 1) := by decide +kernel
theorem dX8_passOne_36 : decode cX8_passOne 36 = .ok (.iload_n 3, 1) := by decide +kernel
theorem dX8_passOne_37 : decode cX8_passOne 37 = .ok (.invokevirtual 36, 3) := by decide +kernel
theorem dX8_passOne_40 : decode cX8_passOne 40 = .ok (.ifCond .eq 7, 3) := by decide +kernel
theorem dX8_passOne_43 : decode cX8_passOne 43 = .ok (.iload_n 3, 1) := by decide +kernel
theorem dX8_passOne_44 : decode cX8_passOne 44 = .ok (.goto 10, 3) := by decide +kernel
theorem dX8_passOne_47 : decode cX8_passOne 47 = .ok (.aload_n 0, 1) := by decide +kernel
theorem dX8_passOne_48 : decode cX8_passOne 48 = .ok (.getfield 15, 3) := by decide +kernel
theorem dX8_passOne_51 : decode cX8_passOne 51 = .ok (.bipush 50, 2) := by decide +kernel
theorem dX8_passOne_53 : decode cX8_passOne 53 = .ok (.iaload, 1) := by decide +kernel
theorem dX8_passOne_54 : decode cX8_passOne 54 = .ok (.iastore, 1) := by decide +kernel
theorem dX8_passOne_55 : decode cX8_passOne 55 = .ok (.goto 60, 3) := by decide +kernel
theorem dX8_passOne_58 : decode cX8_passOne 58 = .ok (.aload_n 0, 1) := by decide +kernel
theorem dX8_passOne_59 : decode cX8_passOne 59 = .ok (.getfield 15, 3) := by decide +kernel
theorem dX8_passOne_62 : decode cX8_passOne 62 = .ok (.iconst 0, 1) := by decide +kernel
theorem dX8_passOne_63 : decode cX8_passOne 63 = .ok (.iload_n 1, 1) := by decide +kernel
theorem dX8_passOne_64 : decode cX8_passOne 64 = .ok (.iadd, 1) := by decide +kernel
theorem dX8_passOne_65 : decode cX8_passOne 65 = .ok (.iaload, 1) := by decide +kernel
theorem dX8_passOne_66 : decode cX8_passOne 66 = .ok (.aload_n 0, 1) := by decide +kernel
theorem dX8_passOne_67 : decode cX8_passOne 67 = .ok (.getfield 15, 3) := by decide +kernel
theorem dX8_passOne_70 : decode cX8_passOne 70 = .ok (.bipush 50, 2) := by decide +kernel
theorem dX8_passOne_72 : decode cX8_passOne 72 = .ok (.iaload, 1) := by decide +kernel
theorem dX8_passOne_73 : decode cX8_passOne 73 = .ok (.if_icmp .ne 13, 3) := by decide +kernel
theorem dX8_passOne_76 : decode cX8_passOne 76 = .ok (.aload_n 0, 1) := by decide +kernel
theorem dX8_passOne_77 : decode cX8_passOne 77 = .ok (.iload_n 1, 1) := by decide +kernel
theorem dX8_passOne_78 : decode cX8_passOne 78 = .ok (.invokevirtual 85, 3) := by decide +kernel
theorem dX8_passOne_81 : decode cX8_passOne 81 = .ok (.iload_n 1, 1) := by decide +kernel
theorem dX8_passOne_82 : decode cX8_passOne 82 = .ok (.istore_n 2, 1) := by decide +kernel
theorem dX8_passOne_83 : decode cX8_passOne 83 = .ok (.goto 32, 3) := by decide +kernel
theorem dX8_passOne_86 : decode cX8_passOne 86 = .ok (.aload_n 0, 1) := by decide +kernel
theorem dX8_passOne_87 : decode cX8_passOne 87 = .ok (.getfield 15, 3) := by decide +kernel
theorem dX8_passOne_90 : decode cX8_passOne 90 = .ok (.bipush 50, 2) := by decide +kernel
theorem dX8_passOne_92 : decode cX8_passOne 92 = .ok (.aload_n 0, 1) := by decide +kernel
theorem dX8_passOne_93 : decode cX8_passOne 93 = .ok (.getfield 15, 3) := by decide +kernel
theorem dX8_passOne_96 : decode cX8_passOne 96 = .ok (.bipush 50, 2) := by decide +kernel
theorem dX8_passOne_98 : decode cX8_passOne 98 = .ok (.iaload, 1) := by decide +kernel
theorem dX8_passOne_99 : decode cX8_passOne 99 = .ok (.aload_n 0, 1) := by decide +kernel
theorem dX8_passOne_100 : decode cX8_passOne 100 = .ok (.getfield 15, 3) := by decide +kernel
theorem dX8_passOne_103 : decode cX8_passOne 103 = .ok (.iconst 0, 1) := by decide +kernel
theorem dX8_passOne_104 : decode cX8_passOne 104 = .ok (.iload_n 1, 1) := by decide +kernel
theorem dX8_passOne_105 : decode cX8_passOne 105 = .ok (.iadd, 1) := by decide +kernel
theorem dX8_passOne_106 : decode cX8_passOne 106 = .ok (.iaload, 1) := by decide +kernel
theorem dX8_passOne_107 : decode cX8_passOne 107 = .ok (.aload_n 0, 1) := by decide +kernel
theorem dX8_passOne_108 : decode cX8_passOne 108 = .ok (.invokevirtual 47, 3) := by decide +kernel
theorem dX8_passOne_111 : decode cX8_passOne 111 = .ok (.invokestatic 89, 3) := by decide +kernel
theorem dX8_passOne_114 : decode cX8_passOne 114 = .ok (.iastore, 1) := by decide +kernel
theorem dX8_passOne_115 : decode cX8_passOne 115 = .ok (.iconst 0, 1) := by decide +kernel
theorem dX8_passOne_116 : decode cX8_passOne 116 = .ok (.istore_n 3, 1) := by decide +kernel
theorem dX8_passOne_117 : decode cX8_passOne 117 = .ok (.iload_n 3, 1) := by decide +kernel
theorem dX8_passOne_118 : decode cX8_passOne 118 = .ok (.aload_n 0, 1) := by decide +kernel
theorem dX8_passOne_119 : decode cX8_passOne 119 = .ok (.getfield 15, 3) := by decide +kernel
theorem dX8_passOne_122 : decode cX8_passOne 122 = .ok (.bipush 84, 2) := by decide +kernel
theorem dX8_passOne_124 : decode cX8_passOne 124 = .ok (.iaload, 1) := by decide +kernel
theorem dX8_passOne_125 : decode cX8_passOne 125 = .ok (.if_icmp .ge 38, 3) := by decide +kernel
theorem dX8_passOne_128 : decode cX8_passOne 128 = .ok (.iload_n 3, 1) := by decide +kernel
theorem dX8_passOne_129 : decode cX8_passOne 129 = .ok (.iload_n 2, 1) := by decide +kernel
theorem dX8_passOne_130 : decode cX8_passOne 130 = .ok (.if_icmp .eq 27, 3) := by decide +kernel
theorem dX8_passOne_133 : decode cX8_passOne 133 = .ok (.aload_n 0, 1) := by decide +kernel
theorem dX8_passOne_134 : decode cX8_passOne 134 = .ok (.getfield 15, 3) := by decide +kernel
theorem dX8_passOne_137 : decode cX8_passOne 137 = .ok (.bipush 10, 2) := by decide +kernel
theorem dX8_passOne_139 : decode cX8_passOne 139 = .ok (.iload_n 3, 1) := by decide +kernel
theorem dX8_passOne_140 : decode cX8_passOne 140 = .ok (.iadd, 1) := by decide +kernel
theorem dX8_passOne_141 : decode cX8_passOne 141 = .ok (.iconst 0, 1) := by decide +kernel
theorem dX8_passOne_142 : decode cX8_passOne 142 = .ok (.aload_n 0, 1) := by decide +kernel
theorem dX8_passOne_143 : decode cX8_passOne 143 = .ok (.getfield 15, 3) := by decide +kernel
theorem dX8_passOne_146 : decode cX8_passOne 146 = .ok (.bipush 10, 2) := by decide +kernel
theorem dX8_passOne_148 : decode cX8_passOne 148 = .ok (.iload_n 3, 1) := by decide +kernel
theorem dX8_passOne_149 : decode cX8_passOne 149 = .ok (.iadd, 1) := by decide +kernel
theorem dX8_passOne_150 : decode cX8_passOne 150 = .ok (.iaload, 1) := by decide +kernel
theorem dX8_passOne_151 : decode cX8_passOne 151 = .ok (.iconst 1, 1) := by decide +kernel
theorem dX8_passOne_152 : decode cX8_passOne 152 = .ok (.isub, 1) := by decide +kernel
theorem dX8_passOne_153 : decode cX8_passOne 153 = .ok (.invokestatic 9, 3) := by decide +kernel
theorem dX8_passOne_156 : decode cX8_passOne 156 = .ok (.iastore, 1) := by decide +kernel
theorem dX8_passOne_157 : decode cX8_passOne 157 = .ok (.iinc 3 1, 3) := by decide +kernel
theorem dX8_passOne_160 : decode cX8_passOne 160 = .ok (.goto (-43), 3) := by decide +kernel
theorem dX8_passOne_163 : decode cX8_passOne 163 = .ok (.aload_n 0, 1) := by decide +kernel
theorem dX8_passOne_164 : decode cX8_passOne 164 = .ok (.getfield 15, 3) := by decide +kernel
theorem dX8_passOne_167 : decode cX8_passOne 167 = .ok (.bipush 51, 2) := by decide +kernel
theorem dX8_passOne_169 : decode cX8_passOne 169 = .ok (.dup2, 1) := by decide +kernel
theorem dX8_passOne_170 : decode cX8_passOne 170 = .ok (.iaload, 1) := by decide +kernel
theorem dX8_passOne_171 : decode cX8_passOne 171 = .ok (.iconst 1, 1) := by decide +kernel
theorem dX8_passOne_172 : decode cX8_passOne 172 = .ok (.iadd, 1) := by decide +kernel
theorem dX8_passOne_173 : decode cX8_passOne 173 = .ok (.iastore, 1) := by decide +kernel
theorem dX8_passOne_174 : decode cX8_passOne 174 = .ok (.iload_n 2, 1) := by decide +kernel
theorem dX8_passOne_175 : decode cX8_passOne 175 = .ok (.ireturn, 1) := by decide +kernel
theorem dX8_rainOn_0 : decode cX8_rainOn 0 = .ok (.aload_n 0, 1) := by decide +kernel
theorem dX8_rainOn_1 : decode cX8_rainOn 1 = .ok (.getfield 15, 3) := by decide +kernel
theorem dX8_rainOn_4 : decode cX8_rainOn 4 = .ok (.iconst 0, 1) := by decide +kernel
theorem dX8_rainOn_5 : decode cX8_rainOn 5 = .ok (.iload_n 1, 1) := by decide +kernel
theorem dX8_rainOn_6 : decode cX8_rainOn 6 = .ok (.iadd, 1) := by decide +kernel
theorem dX8_rainOn_7 : decode cX8_rainOn 7 = .ok (.iaload, 1) := by decide +kernel
theorem dX8_rainOn_8 : decode cX8_rainOn 8 = .ok (.istore_n 2, 1) := by decide +kernel
theorem dX8_rainOn_9 : decode cX8_rainOn 9 = .ok (.aload_n 0, 1) := by decide +kernel
theorem dX8_rainOn_10 : decode cX8_rainOn 10 = .ok (.iload_n 1, 1) := by decide +kernel
theorem dX8_rainOn_11 : decode cX8_rainOn 11 = .ok (.invokevirtual 92, 3) := by decide +kernel
theorem dX8_rainOn_14 : decode cX8_rainOn 14 = .ok (.bipush 99, 2) := by decide +kernel
theorem dX8_rainOn_16 : decode cX8_rainOn 16 = .ok (.aload_n 0, 1) := by decide +kernel
theorem dX8_rainOn_17 : decode cX8_rainOn 17 = .ok (.getfield 15, 3) := by decide +kernel
theorem dX8_rainOn_20 : decode cX8_rainOn 20 = .ok (.bipush 20, 2) := by decide +kernel
theorem dX8_rainOn_22 : decode cX8_rainOn 22 = .ok (.iload_n 2, 1) := by decide +kernel
theorem dX8_rainOn_23 : decode cX8_rainOn 23 = .ok (.iadd, 1) := by decide +kernel
theorem dX8_rainOn_24 : decode cX8_rainOn 24 = .ok (.iaload, 1) := by decide +kernel
theorem dX8_rainOn_25 : decode cX8_rainOn 25 = .ok (.isub, 1) := by decide +kernel
theorem dX8_rainOn_26 : decode cX8_rainOn 26 = .ok (.invokestatic 67, 3) := by decide +kernel
theorem dX8_rainOn_29 : decode cX8_rainOn 29 = .ok (.istore_n 3, 1) := by decide +kernel
theorem dX8_rainOn_30 : decode cX8_rainOn 30 = .ok (.aload_n 0, 1) := by decide +kernel
theorem dX8_rainOn_31 : decode cX8_rainOn 31 = .ok (.getfield 15, 3) := by decide +kernel
theorem dX8_rainOn_34 : decode cX8_rainOn 34 = .ok (.bipush 20, 2) := by decide +kernel
theorem dX8_rainOn_36 : decode cX8_rainOn 36 = .ok (.iload_n 2, 1) := by decide +kernel
theorem dX8_rainOn_37 : decode cX8_rainOn 37 = .ok (.iadd, 1) := by decide +kernel
theorem dX8_rainOn_38 : decode cX8_rainOn 38 = .ok (.dup2, 1) := by decide +kernel
theorem dX8_rainOn_39 : decode cX8_rainOn 39 = .ok (.iaload, 1) := by decide +kernel
theorem dX8_rainOn_40 : decode cX8_rainOn 40 = .ok (.iload_n 3, 1) := by decide +kernel
theorem dX8_rainOn_41 : decode cX8_rainOn 41 = .ok (.iadd, 1) := by decide +kernel
theorem dX8_rainOn_42 : decode cX8_rainOn 42 = .ok (.iastore, 1) := by decide +kernel
theorem dX8_rainOn_43 : decode cX8_rainOn 43 = .ok (.aload_n 0, 1) := by decide +kernel
theorem dX8_rainOn_44 : decode cX8_rainOn 44 = .ok (.getfield 15, 3) := by decide +kernel
theorem dX8_rainOn_47 : decode cX8_rainOn 47 = .ok (.bipush 10, 2) := by decide +kernel
theorem dX8_rainOn_49 : decode cX8_rainOn 49 = .ok (.iload_n 1, 1) := by decide +kernel
theorem dX8_rainOn_50 : decode cX8_rainOn 50 = .ok (.iadd, 1) := by decide +kernel
theorem dX8_rainOn_51 : decode cX8_rainOn 51 = .ok (.bipush 99, 2) := by decide +kernel
theorem dX8_rainOn_53 : decode cX8_rainOn 53 = .ok (.aload_n 0, 1) := by decide +kernel
theorem dX8_rainOn_54 : decode cX8_rainOn 54 = .ok (.getfield 15, 3) := by decide +kernel
theorem dX8_rainOn_57 : decode cX8_rainOn 57 = .ok (.bipush 10, 2) := by decide +kernel
theorem dX8_rainOn_59 : decode cX8_rainOn 59 = .ok (.iload_n 1, 1) := by decide +kernel
theorem dX8_rainOn_60 : decode cX8_rainOn 60 = .ok (.iadd, 1) := by decide +kernel
theorem dX8_rainOn_61 : decode cX8_rainOn 61 = .ok (.iaload, 1) := by decide +kernel
theorem dX8_rainOn_62 : decode cX8_rainOn 62 = .ok (.iconst 3, 1) := by decide +kernel
theorem dX8_rainOn_63 : decode cX8_rainOn 63 = .ok (.iadd, 1) := by decide +kernel
theorem dX8_rainOn_64 : decode cX8_rainOn 64 = .ok (.invokestatic 67, 3) := by decide +kernel
theorem dX8_rainOn_67 : decode cX8_rainOn 67 = .ok (.iastore, 1) := by decide +kernel
theorem dX8_rainOn_68 : decode cX8_rainOn 68 = .ok (.aload_n 0, 1) := by decide +kernel
theorem dX8_rainOn_69 : decode cX8_rainOn 69 = .ok (.getfield 15, 3) := by decide +kernel
theorem dX8_rainOn_72 : decode cX8_rainOn 72 = .ok (.bipush 15, 2) := by decide +kernel
theorem dX8_rainOn_74 : decode cX8_rainOn 74 = .ok (.iload_n 1, 1) := by decide +kernel
theorem dX8_rainOn_75 : decode cX8_rainOn 75 = .ok (.iadd, 1) := by decide +kernel
theorem dX8_rainOn_76 : decode cX8_rainOn 76 = .ok (.sipush 999, 3) := by decide +kernel
theorem dX8_rainOn_79 : decode cX8_rainOn 79 = .ok (.aload_n 0, 1) := by decide +kernel
theorem dX8_rainOn_80 : decode cX8_rainOn 80 = .ok (.getfield 15, 3) := by decide +kernel
theorem dX8_rainOn_83 : decode cX8_rainOn 83 = .ok (.bipush 15, 2) := by decide +kernel
theorem dX8_rainOn_85 : decode cX8_rainOn 85 = .ok (.iload_n 1, 1) := by decide +kernel
theorem dX8_rainOn_86 : decode cX8_rainOn 86 = .ok (.iadd, 1) := by decide +kernel
theorem dX8_rainOn_87 : decode cX8_rainOn 87 = .ok (.iaload, 1) := by decide +kernel
theorem dX8_rainOn_88 : decode cX8_rainOn 88 = .ok (.iconst 1, 1) := by decide +kernel
theorem dX8_rainOn_89 : decode cX8_rainOn 89 = .ok (.iadd, 1) := by decide +kernel
theorem dX8_rainOn_90 : decode cX8_rainOn 90 = .ok (.invokestatic 67, 3) := by decide +kernel
theorem dX8_rainOn_93 : decode cX8_rainOn 93 = .ok (.iastore, 1) := by decide +kernel
theorem dX8_rainOn_94 : decode cX8_rainOn 94 = .ok (.aload_n 0, 1) := by decide +kernel
theorem dX8_rainOn_95 : decode cX8_rainOn 95 = .ok (.getfield 15, 3) := by decide +kernel
theorem dX8_rainOn_98 : decode cX8_rainOn 98 = .ok (.bipush 53, 2) := by decide +kernel
theorem dX8_rainOn_100 : decode cX8_rainOn 100 = .ok (.iaload, 1) := by decide +kernel
theorem dX8_rainOn_101 : decode cX8_rainOn 101 = .ok (.bipush 30, 2) := by decide +kernel
theorem dX8_rainOn_103 : decode cX8_rainOn 103 = .ok (.if_icmp .lt 29, 3) := by decide +kernel
theorem dX8_rainOn_106 : decode cX8_rainOn 106 = .ok (.aload_n 0, 1) := by decide +kernel
theorem dX8_rainOn_107 : decode cX8_rainOn 107 = .ok (.getfield 15, 3) := by decide +kernel
theorem dX8_rainOn_110 : decode cX8_rainOn 110 = .ok (.bipush 55, 2) := by decide +kernel
theorem dX8_rainOn_112 : decode cX8_rainOn 112 = .ok (.aload_n 0, 1) := by decide +kernel
theorem dX8_rainOn_113 : decode cX8_rainOn 113 = .ok (.getfield 15, 3) := by decide +kernel
theorem dX8_rainOn_116 : decode cX8_rainOn 116 = .ok (.bipush 54, 2) := by decide +kernel
theorem dX8_rainOn_118 : decode cX8_rainOn 118 = .ok (.bipush 29, 2) := by decide +kernel
theorem dX8_rainOn_120 : decode cX8_rainOn 120 = .ok (.invokestatic 95, 3) := by decide +kernel
theorem dX8_rainOn_123 : decode cX8_rainOn 123 = .ok (.aload_n 0, 1) := by decide +kernel
theorem dX8_rainOn_124 : decode cX8_rainOn 124 = .ok (.getfield 15, 3) := by decide +kernel
theorem dX8_rainOn_127 : decode cX8_rainOn 127 = .ok (.bipush 53, 2) := by decide +kernel
theorem dX8_rainOn_129 : decode cX8_rainOn 129 = .ok (.bipush 29, 2) := by decide +kernel
theorem dX8_rainOn_131 : decode cX8_rainOn 131 = .ok (.iastore, 1) := by decide +kernel
theorem dX8_rainOn_132 : decode cX8_rainOn 132 = .ok (.aload_n 0, 1) := by decide +kernel
theorem dX8_rainOn_133 : decode cX8_rainOn 133 = .ok (.getfield 15, 3) := by decide +kernel
theorem dX8_rainOn_136 : decode cX8_rainOn 136 = .ok (.bipush 54, 2) := by decide +kernel
theorem dX8_rainOn_138 : decode cX8_rainOn 138 = .ok (.aload_n 0, 1) := by decide +kernel
theorem dX8_rainOn_139 : decode cX8_rainOn 139 = .ok (.getfield 15, 3) := by decide +kernel
theorem dX8_rainOn_142 : decode cX8_rainOn 142 = .ok (.bipush 53, 2) := by decide +kernel
theorem dX8_rainOn_144 : decode cX8_rainOn 144 = .ok (.iaload, 1) := by decide +kernel
theorem dX8_rainOn_145 : decode cX8_rainOn 145 = .ok (.iadd, 1) := by decide +kernel
theorem dX8_rainOn_146 : decode cX8_rainOn 146 = .ok (.aload_n 0, 1) := by decide +kernel
theorem dX8_rainOn_147 : decode cX8_rainOn 147 = .ok (.getfield 15, 3) := by decide +kernel
theorem dX8_rainOn_150 : decode cX8_rainOn 150 = .ok (.bipush 51, 2) := by decide +kernel
theorem dX8_rainOn_152 : decode cX8_rainOn 152 = .ok (.iaload, 1) := by decide +kernel
theorem dX8_rainOn_153 : decode cX8_rainOn 153 = .ok (.iload_n 1, 1) := by decide +kernel
theorem dX8_rainOn_154 : decode cX8_rainOn 154 = .ok (.iload_n 2, 1) := by decide +kernel
theorem dX8_rainOn_155 : decode cX8_rainOn 155 = .ok (.iload_n 3, 1) := by decide +kernel
theorem dX8_rainOn_156 : decode cX8_rainOn 156 = .ok (.invokestatic 101, 3) := by decide +kernel
theorem dX8_rainOn_159 : decode cX8_rainOn 159 = .ok (.iastore, 1) := by decide +kernel
theorem dX8_rainOn_160 : decode cX8_rainOn 160 = .ok (.aload_n 0, 1) := by decide +kernel
theorem dX8_rainOn_161 : decode cX8_rainOn 161 = .ok (.getfield 15, 3) := by decide +kernel
theorem dX8_rainOn_164 : decode cX8_rainOn 164 = .ok (.bipush 53, 2) := by decide +kernel
theorem dX8_rainOn_166 : decode cX8_rainOn 166 = .ok (.dup2, 1) := by decide +kernel
theorem dX8_rainOn_167 : decode cX8_rainOn 167 = .ok (.iaload, 1) := by decide +kernel
theorem dX8_rainOn_168 : decode cX8_rainOn 168 = .ok (.iconst 1, 1) := by decide +kernel
theorem dX8_rainOn_169 : decode cX8_rainOn 169 = .ok (.iadd, 1) := by decide +kernel
theorem dX8_rainOn_170 : decode cX8_rainOn 170 = .ok (.iastore, 1) := by decide +kernel
theorem dX8_rainOn_171 : decode cX8_rainOn 171 = .ok (.return_, 1) := by decide +kernel
theorem dX8_liveOn_0 : decode cX8_liveOn 0 = .ok (.aload_n 0, 1) := by decide +kernel
theorem dX8_liveOn_1 : decode cX8_liveOn 1 = .ok (.getfield 15, 3) := by decide +kernel
theorem dX8_liveOn_4 : decode cX8_liveOn 4 = .ok (.bipush 84, 2) := by decide +kernel
theorem dX8_liveOn_6 : decode cX8_liveOn 6 = .ok (.iaload, 1) := by decide +kernel
theorem dX8_liveOn_7 : decode cX8_liveOn 7 = .ok (.istore_n 2, 1) := by decide +kernel
theorem dX8_liveOn_8 : decode cX8_liveOn 8 = .ok (.iload_n 1, 1) := by decide +kernel
theorem dX8_liveOn_9 : decode cX8_liveOn 9 = .ok (.bipush 6, 2) := by decide +kernel
theorem dX8_liveOn_11 : decode cX8_liveOn 11 = .ok (.irem, 1) := by decide +kernel
theorem dX8_liveOn_12 : decode cX8_liveOn 12 = .ok (.istore_n 3, 1) := by decide +kernel
theorem dX8_liveOn_13 : decode cX8_liveOn 13 = .ok (.iload_n 3, 1) := by decide +kernel
theorem dX8_liveOn_14 : decode cX8_liveOn 14 = .ok (.iconst 3, 1) := by decide +kernel
theorem dX8_liveOn_15 : decode cX8_liveOn 15 = .ok (.if_icmp .lt 16, 3) := by decide +kernel
theorem dX8_liveOn_18 : decode cX8_liveOn 18 = .ok (.aload_n 0, 1) := by decide +kernel
theorem dX8_liveOn_19 : decode cX8_liveOn 19 = .ok (.invokevirtual 107, 3) := by decide +kernel
theorem dX8_liveOn_22 : decode cX8_liveOn 22 = .ok (.ifCond .eq 8, 3) := by decide +kernel
theorem dX8_liveOn_25 : decode cX8_liveOn 25 = .ok (.aload_n 0, 1) := by decide +kernel
theorem dX8_liveOn_26 : decode cX8_liveOn 26 = .ok (.invokevirtual 111, 3) := by decide +kernel
theorem dX8_liveOn_29 : decode cX8_liveOn 29 = .ok (.pop, 1) := by decide +kernel
theorem dX8_liveOn_30 : decode cX8_liveOn 30 = .ok (.return_, 1) := by decide +kernel
theorem dX8_liveOn_31 : decode cX8_liveOn 31 = .ok (.iload_n 2, 1) := by decide +kernel
theorem dX8_liveOn_32 : decode cX8_liveOn 32 = .ok (.ifCond .gt 4, 3) := by decide +kernel
theorem dX8_liveOn_35 : decode cX8_liveOn 35 = .ok (.return_, 1) := by decide +kernel
theorem dX8_liveOn_36 : decode cX8_liveOn 36 = .ok (.iload_n 1, 1) := by decide +kernel
theorem dX8_liveOn_37 : decode cX8_liveOn 37 = .ok (.iload_n 2, 1) := by decide +kernel
theorem dX8_liveOn_38 : decode cX8_liveOn 38 = .ok (.irem, 1) := by decide +kernel
theorem dX8_liveOn_39 : decode cX8_liveOn 39 = .ok (.istore 4, 2) := by decide +kernel
theorem dX8_liveOn_41 : decode cX8_liveOn 41 = .ok (.iload_n 3, 1) := by decide +kernel
theorem dX8_liveOn_42 : decode cX8_liveOn 42 = .ok (.iconst 2, 1) := by decide +kernel
theorem dX8_liveOn_43 : decode cX8_liveOn 43 = .ok (.if_icmp .ne 24, 3) := by decide +kernel
theorem dX8_liveOn_46 : decode cX8_liveOn 46 = .ok (.aload_n 0, 1) := by decide +kernel
theorem dX8_liveOn_47 : decode cX8_liveOn 47 = .ok (.getfield 15, 3) := by decide +kernel
theorem dX8_liveOn_50 : decode cX8_liveOn 50 = .ok (.iconst 5, 1) := by decide +kernel
theorem dX8_liveOn_51 : decode cX8_liveOn 51 = .ok (.iload 4, 2) := by decide +kernel
theorem dX8_liveOn_53 : decode cX8_liveOn 53 = .ok (.iadd, 1) := by decide +kernel
theorem dX8_liveOn_54 : decode cX8_liveOn 54 = .ok (.iload_n 1, 1) := by decide +kernel
theorem dX8_liveOn_55 : decode cX8_liveOn 55 = .ok (.iconst 4, 1) := by decide +kernel
theorem dX8_liveOn_56 : decode cX8_liveOn 56 = .ok (.irem, 1) := by decide +kernel
theorem dX8_liveOn_57 : decode cX8_liveOn 57 = .ok (.ifCond .le 7, 3) := by decide +kernel
theorem dX8_liveOn_60 : decode cX8_liveOn 60 = .ok (.iconst 1, 1) := by decide +kernel
theorem dX8_liveOn_61 : decode cX8_liveOn 61 = .ok (.goto 4, 3) := by decide +kernel
theorem dX8_liveOn_64 : decode cX8_liveOn 64 = .ok (.iconst 0, 1) := by decide +kernel
theorem dX8_liveOn_65 : decode cX8_liveOn 65 = .ok (.iastore, 1) := by decide +kernel
theorem dX8_liveOn_66 : decode cX8_liveOn 66 = .ok (.return_, 1) := by decide +kernel
theorem dX8_liveOn_67 : decode cX8_liveOn 67 = .ok (.aload_n 0, 1) := by decide +kernel
theorem dX8_liveOn_68 : decode cX8_liveOn 68 = .ok (.getfield 15, 3) := by decide +kernel
theorem dX8_liveOn_71 : decode cX8_liveOn 71 = .ok (.iconst 0, 1) := by decide +kernel
theorem dX8_liveOn_72 : decode cX8_liveOn 72 = .ok (.iload 4, 2) := by decide +kernel
theorem dX8_liveOn_74 : decode cX8_liveOn 74 = .ok (.iadd, 1) := by decide +kernel
theorem dX8_liveOn_75 : decode cX8_liveOn 75 = .ok (.iaload, 1) := by decide +kernel
theorem dX8_liveOn_76 : decode cX8_liveOn 76 = .ok (.iload_n 1, 1) := by decide +kernel
theorem dX8_liveOn_77 : decode cX8_liveOn 77 = .ok (.bipush 6, 2) := by decide +kernel
theorem dX8_liveOn_79 : decode cX8_liveOn 79 = .ok (.idiv, 1) := by decide +kernel
theorem dX8_liveOn_80 : decode cX8_liveOn 80 = .ok (.iconst 4, 1) := by decide +kernel
theorem dX8_liveOn_81 : decode cX8_liveOn 81 = .ok (.irem, 1) := by decide +kernel
theorem dX8_liveOn_82 : decode cX8_liveOn 82 = .ok (.invokestatic 82, 3) := by decide +kernel
theorem dX8_liveOn_85 : decode cX8_liveOn 85 = .ok (.istore 5, 2) := by decide +kernel
theorem dX8_liveOn_87 : decode cX8_liveOn 87 = .ok (.aload_n 0, 1) := by decide +kernel
theorem dX8_liveOn_88 : decode cX8_liveOn 88 = .ok (.iload 5, 2) := by decide +kernel
theorem dX8_liveOn_90 : decode cX8_liveOn 90 = .ok (.invokevirtual 36, 3) := by decide +kernel
theorem dX8_liveOn_93 : decode cX8_liveOn 93 = .ok (.ifCond .eq 14, 3) := by decide +kernel
theorem dX8_liveOn_96 : decode cX8_liveOn 96 = .ok (.aload_n 0, 1) := by decide +kernel
theorem dX8_liveOn_97 : decode cX8_liveOn 97 = .ok (.getfield 15, 3) := by decide +kernel
theorem dX8_liveOn_100 : decode cX8_liveOn 100 = .ok (.iconst 0, 1) := by decide +kernel
theorem dX8_liveOn_101 : decode cX8_liveOn 101 = .ok (.iload 4, 2) := by decide +kernel
theorem dX8_liveOn_103 : decode cX8_liveOn 103 = .ok (.iadd, 1) := by decide +kernel
theorem dX8_liveOn_104 : decode cX8_liveOn 104 = .ok (.iload 5, 2) := by decide +kernel
theorem dX8_liveOn_106 : decode cX8_liveOn 106 = .ok (.iastore, 1) := by decide +kernel
theorem dX8_liveOn_107 : decode cX8_liveOn 107 = .ok (.return_, 1) := by decide +kernel
theorem dX9_isHead_0 : decode cX9_isHead 0 = .ok (.iload_n 0, 1) := by decide +kernel
theorem dX9_isHead_1 : decode cX9_isHead 1 = .ok (.ifCond .lt 13, 3) := by decide +kernel
theorem dX9_isHead_4 : decode cX9_isHead 4 = .ok (.iload_n 0, 1) := by decide +kernel
theorem dX9_isHead_5 : decode cX9_isHead 5 = .ok (.bipush 9, 2) := by decide +kernel
theorem dX9_isHead_7 : decode cX9_isHead 7 = .ok (.if_icmp .gt 7, 3) := by decide +kernel
theorem dX9_isHead_10 : decode cX9_isHead 10 = .ok (.iconst 1, 1) := by decide +kernel
theorem dX9_isHead_11 : decode cX9_isHead 11 = .ok (.goto 4, 3) := by decide +kernel
theorem dX9_isHead_14 : decode cX9_isHead 14 = .ok (.iconst 0, 1) := by decide +kernel
theorem dX9_isHead_15 : decode cX9_isHead 15 = .ok (.ireturn, 1) := by decide +kernel
theorem dX9_isName_0 : decode cX9_isName 0 = .ok (.iload_n 0, 1) := by decide +kernel
theorem dX9_isName_1 : decode cX9_isName 1 = .ok (.bipush 9, 2) := by decide +kernel
theorem dX9_isName_3 : decode cX9_isName 3 = .ok (.if_icmp .lt 13, 3) := by decide +kernel
theorem dX9_isName_6 : decode cX9_isName 6 = .ok (.iload_n 0, 1) := by decide +kernel
theorem dX9_isName_7 : decode cX9_isName 7 = .ok (.bipush 16, 2) := by decide +kernel
theorem dX9_isName_9 : decode cX9_isName 9 = .ok (.if_icmp .gt 7, 3) := by decide +kernel
theorem dX9_isName_12 : decode cX9_isName 12 = .ok (.iconst 1, 1) := by decide +kernel
theorem dX9_isName_13 : decode cX9_isName 13 = .ok (.goto 4, 3) := by decide +kernel
theorem dX9_isName_16 : decode cX9_isName 16 = .ok (.iconst 0, 1) := by decide +kernel
theorem dX9_isName_17 : decode cX9_isName 17 = .ok (.ireturn, 1) := by decide +kernel
theorem dX9_isCompare_0 : decode cX9_isCompare 0 = .ok (.iload_n 0, 1) := by decide +kernel
theorem dX9_isCompare_1 : decode cX9_isCompare 1 = .ok (.bipush 28, 2) := by decide +kernel
theorem dX9_isCompare_3 : decode cX9_isCompare 3 = .ok (.if_icmp .lt 9, 3) := by decide +kernel
theorem dX9_isCompare_6 : decode cX9_isCompare 6 = .ok (.iload_n 0, 1) := by decide +kernel
theorem dX9_isCompare_7 : decode cX9_isCompare 7 = .ok (.bipush 31, 2) := by decide +kernel
theorem dX9_isCompare_9 : decode cX9_isCompare 9 = .ok (.if_icmp .le 15, 3) := by decide +kernel
theorem dX9_isCompare_12 : decode cX9_isCompare 12 = .ok (.iload_n 0, 1) := by decide +kernel
theorem dX9_isCompare_13 : decode cX9_isCompare 13 = .ok (.bipush 39, 2) := by decide +kernel
theorem dX9_isCompare_15 : decode cX9_isCompare 15 = .ok (.if_icmp .eq 9, 3) := by decide +kernel
theorem dX9_isCompare_18 : decode cX9_isCompare 18 = .ok (.iload_n 0, 1) := by decide +kernel
theorem dX9_isCompare_19 : decode cX9_isCompare 19 = .ok (.bipush 40, 2) := by decide +kernel
theorem dX9_isCompare_21 : decode cX9_isCompare 21 = .ok (.if_icmp .ne 7, 3) := by decide +kernel
theorem dX9_isCompare_24 : decode cX9_isCompare 24 = .ok (.iconst 1, 1) := by decide +kernel
theorem dX9_isCompare_25 : decode cX9_isCompare 25 = .ok (.goto 4, 3) := by decide +kernel
theorem dX9_isCompare_28 : decode cX9_isCompare 28 = .ok (.iconst 0, 1) := by decide +kernel
theorem dX9_isCompare_29 : decode cX9_isCompare 29 = .ok (.ireturn, 1) := by decide +kernel
theorem dX10_init_0 : decode cX10_init 0 = .ok (.aload_n 0, 1) := by decide +kernel
theorem dX10_init_1 : decode cX10_init 1 = .ok (.invokespecial 3, 3) := by decide +kernel
theorem dX10_init_4 : decode cX10_init 4 = .ok (.aload_n 0, 1) := by decide +kernel
theorem dX10_init_5 : decode cX10_init 5 = .ok (.iconst (-1), 1) := by decide +kernel
theorem dX10_init_6 : decode cX10_init 6 = .ok (.putfield 9, 3) := by decide +kernel
theorem dX10_init_9 : decode cX10_init 9 = .ok (.aload_n 0, 1) := by decide +kernel
theorem dX10_init_10 : decode cX10_init 10 = .ok (.iconst 5, 1) := by decide +kernel
theorem dX10_init_11 : decode cX10_init 11 = .ok (.newarray .int, 2) := by decide +kernel
theorem dX10_init_13 : decode cX10_init 13 = .ok (.putfield 15, 3) := by decide +kernel
theorem dX10_init_16 : decode cX10_init 16 = .ok (.aload_n 0, 1) := by decide +kernel
theorem dX10_init_17 : decode cX10_init 17 = .ok (.iconst 5, 1) := by decide +kernel
theorem dX10_init_18 : decode cX10_init 18 = .ok (.newarray .int, 2) := by decide +kernel
theorem dX10_init_20 : decode cX10_init 20 = .ok (.putfield 19, 3) := by decide +kernel
theorem dX10_init_23 : decode cX10_init 23 = .ok (.aload_n 0, 1) := by decide +kernel
theorem dX10_init_24 : decode cX10_init 24 = .ok (.iconst 0, 1) := by decide +kernel
theorem dX10_init_25 : decode cX10_init 25 = .ok (.putfield 22, 3) := by decide +kernel
theorem dX10_init_28 : decode cX10_init 28 = .ok (.aload_n 0, 1) := by decide +kernel
theorem dX10_init_29 : decode cX10_init 29 = .ok (.iconst 0, 1) := by decide +kernel
theorem dX10_init_30 : decode cX10_init 30 = .ok (.putfield 25, 3) := by decide +kernel
theorem dX10_init_33 : decode cX10_init 33 = .ok (.return_, 1) := by decide +kernel
theorem dX10_plan_0 : decode cX10_plan 0 = .ok (.aload_n 0, 1) := by decide +kernel
theorem dX10_plan_1 : decode cX10_plan 1 = .ok (.iload_n 2, 1) := by decide +kernel
theorem dX10_plan_2 : decode cX10_plan 2 = .ok (.invokestatic 28, 3) := by decide +kernel
theorem dX10_plan_5 : decode cX10_plan 5 = .ok (.putfield 22, 3) := by decide +kernel
theorem dX10_plan_8 : decode cX10_plan 8 = .ok (.aload_n 0, 1) := by decide +kernel
theorem dX10_plan_9 : decode cX10_plan 9 = .ok (.iload_n 3, 1) := by decide +kernel
theorem dX10_plan_10 : decode cX10_plan 10 = .ok (.putfield 25, 3) := by decide +kernel
theorem dX10_plan_13 : decode cX10_plan 13 = .ok (.aload_n 0, 1) := by decide +kernel
theorem dX10_plan_14 : decode cX10_plan 14 = .ok (.ldc 34, 2) := by decide +kernel
theorem dX10_plan_16 : decode cX10_plan 16 = .ok (.putfield 9, 3) := by decide +kernel
theorem dX10_plan_19 : decode cX10_plan 19 = .ok (.aload_n 0, 1) := by decide +kernel
theorem dX10_plan_20 : decode cX10_plan 20 = .ok (.iconst 0, 1) := by decide +kernel
theorem dX10_plan_21 : decode cX10_plan 21 = .ok (.iload_n 1, 1) := by decide +kernel
theorem dX10_plan_22 : decode cX10_plan 22 = .ok (.iload_n 2, 1) := by decide +kernel
theorem dX10_plan_23 : decode cX10_plan 23 = .ok (.iconst 0, 1) := by decide +kernel
theorem dX10_plan_24 : decode cX10_plan 24 = .ok (.invokevirtual 35, 3) := by decide +kernel
theorem dX10_plan_27 : decode cX10_plan 27 = .ok (.aload_n 0, 1) := by decide +kernel
theorem dX10_plan_28 : decode cX10_plan 28 = .ok (.getfield 9, 3) := by decide +kernel
theorem dX10_plan_31 : decode cX10_plan 31 = .ok (.ldc 34, 2) := by decide +kernel
theorem dX10_plan_33 : decode cX10_plan 33 = .ok (.if_icmp .ge 7, 3) := by decide +kernel
theorem dX10_plan_36 : decode cX10_plan 36 = .ok (.iconst 1, 1) := by decide +kernel
theorem dX10_plan_37 : decode cX10_plan 37 = .ok (.goto 4, 3) := by decide +kernel
theorem dX10_plan_40 : decode cX10_plan 40 = .ok (.iconst 0, 1) := by decide +kernel
theorem dX10_plan_41 : decode cX10_plan 41 = .ok (.ireturn, 1) := by decide +kernel
theorem dX10_extend_0 : decode cX10_extend 0 = .ok (.iload_n 3, 1) := by decide +kernel
theorem dX10_extend_1 : decode cX10_extend 1 = .ok (.ifCond .eq 8, 3) := by decide +kernel
theorem dX10_extend_4 : decode cX10_extend 4 = .ok (.iload_n 1, 1) := by decide +kernel
theorem dX10_extend_5 : decode cX10_extend 5 = .ok (.iconst 5, 1) := by decide +kernel
theorem dX10_extend_6 : decode cX10_extend 6 = .ok (.if_icmp .lt 24, 3) := by decide +kernel
theorem dX10_extend_9 : decode cX10_extend 9 = .ok (.aload_n 0, 1) := by decide +kernel
theorem dX10_extend_10 : decode cX10_extend 10 = .ok (.iload 4, 2) := by decide +kernel
theorem dX10_extend_12 : decode cX10_extend 12 = .ok (.putfield 9, 3) := by decide +kernel
theorem dX10_extend_15 : decode cX10_extend 15 = .ok (.aload_n 0, 1) := by decide +kernel
theorem dX10_extend_16 : decode cX10_extend 16 = .ok (.getfield 19, 3) := by decide +kernel
theorem dX10_extend_19 : decode cX10_extend 19 = .ok (.iconst 0, 1) := by decide +kernel
theorem dX10_extend_20 : decode cX10_extend 20 = .ok (.aload_n 0, 1) := by decide +kernel
theorem dX10_extend_21 : decode cX10_extend 21 = .ok (.getfield 15, 3) := by decide +kernel
theorem dX10_extend_24 : decode cX10_extend 24 = .ok (.iconst 0, 1) := by decide +kernel
theorem dX10_extend_25 : decode cX10_extend 25 = .ok (.iconst 5, 1) := by decide +kernel
theorem dX10_extend_26 : decode cX10_extend 26 = .ok (.invokestatic 39, 3) := by decide +kernel
theorem dX10_extend_29 : decode cX10_extend 29 = .ok (.return_, 1) := by decide +kernel
theorem dX10_extend_30 : decode cX10_extend 30 = .ok (.iconst 0, 1) := by decide +kernel
theorem dX10_extend_31 : decode cX10_extend 31 = .ok (.istore 5, 2) := by decide +kernel
theorem dX10_extend_33 : decode cX10_extend 33 = .ok (.iload 5, 2) := by decide +kernel
theorem dX10_extend_35 : decode cX10_extend 35 = .ok (.bipush 30, 2) := by decide +kernel
theorem dX10_extend_37 : decode cX10_extend 37 = .ok (.if_icmp .ge 87, 3) := by decide +kernel
theorem dX10_extend_40 : decode cX10_extend 40 = .ok (.iload_n 3, 1) := by decide +kernel
theorem dX10_extend_41 : decode cX10_extend 41 = .ok (.iload 5, 2) := by decide +kernel
theorem dX10_extend_43 : decode cX10_extend 43 = .ok (.invokestatic 45, 3) := by decide +kernel
theorem dX10_extend_46 : decode cX10_extend 46 = .ok (.ifCond .eq 72, 3) := by decide +kernel
theorem dX10_extend_49 : decode cX10_extend 49 = .ok (.iload_n 2, 1) := by decide +kernel
theorem dX10_extend_50 : decode cX10_extend 50 = .ok (.iload 5, 2) := by decide +kernel
theorem dX10_extend_52 : decode cX10_extend 52 = .ok (.aload_n 0, 1) := by decide +kernel
theorem dX10_extend_53 : decode cX10_extend 53 = .ok (.getfield 25, 3) := by decide +kernel
theorem dX10_extend_56 : decode cX10_extend 56 = .ok (.invokestatic 51, 3) := by decide +kernel
theorem dX10_extend_59 : decode cX10_extend 59 = .ok (.istore 6, 2) := by decide +kernel
theorem dX10_extend_61 : decode cX10_extend 61 = .ok (.iload 6, 2) := by decide +kernel
theorem dX10_extend_63 : decode cX10_extend 63 = .ok (.iconst (-1), 1) := by decide +kernel
theorem dX10_extend_64 : decode cX10_extend 64 = .ok (.if_icmp .eq 54, 3) := by decide +kernel
theorem dX10_extend_67 : decode cX10_extend 67 = .ok (.iload 4, 2) := by decide +kernel
theorem dX10_extend_69 : decode cX10_extend 69 = .ok (.iload 6, 2) := by decide +kernel
theorem dX10_extend_71 : decode cX10_extend 71 = .ok (.iadd, 1) := by decide +kernel
theorem dX10_extend_72 : decode cX10_extend 72 = .ok (.aload_n 0, 1) := by decide +kernel
theorem dX10_extend_73 : decode cX10_extend 73 = .ok (.getfield 22, 3) := by decide +kernel
theorem dX10_extend_76 : decode cX10_extend 76 = .ok (.iadd, 1) := by decide +kernel
theorem dX10_extend_77 : decode cX10_extend 77 = .ok (.iload_n 1, 1) := by decide +kernel
theorem dX10_extend_78 : decode cX10_extend 78 = .ok (.isub, 1) := by decide +kernel
theorem dX10_extend_79 : decode cX10_extend 79 = .ok (.iconst 1, 1) := by decide +kernel
theorem dX10_extend_80 : decode cX10_extend 80 = .ok (.isub, 1) := by decide +kernel
theorem dX10_extend_81 : decode cX10_extend 81 = .ok (.aload_n 0, 1) := by decide +kernel
theorem dX10_extend_82 : decode cX10_extend 82 = .ok (.getfield 9, 3) := by decide +kernel
theorem dX10_extend_85 : decode cX10_extend 85 = .ok (.if_icmp .ge 33, 3) := by decide +kernel
theorem dX10_extend_88 : decode cX10_extend 88 = .ok (.aload_n 0, 1) := by decide +kernel
theorem dX10_extend_89 : decode cX10_extend 89 = .ok (.getfield 19, 3) := by decide +kernel
theorem dX10_extend_92 : decode cX10_extend 92 = .ok (.iload_n 1, 1) := by decide +kernel
theorem dX10_extend_93 : decode cX10_extend 93 = .ok (.iload 5, 2) := by decide +kernel
theorem dX10_extend_95 : decode cX10_extend 95 = .ok (.iastore, 1) := by decide +kernel
theorem dX10_extend_96 : decode cX10_extend 96 = .ok (.aload_n 0, 1) := by decide +kernel
theorem dX10_extend_97 : decode cX10_extend 97 = .ok (.iload_n 1, 1) := by decide +kernel
theorem dX10_extend_98 : decode cX10_extend 98 = .ok (.iconst 1, 1) := by decide +kernel
theorem dX10_extend_99 : decode cX10_extend 99 = .ok (.iadd, 1) := by decide +kernel
theorem dX10_extend_100 : decode cX10_extend 100 = .ok (.iload 5, 2) := by decide +kernel
theorem dX10_extend_102 : decode cX10_extend 102 = .ok (.iload_n 3, 1) := by decide +kernel
theorem dX10_extend_103 : decode cX10_extend 103 = .ok (.iconst 1, 1) := by decide +kernel
theorem dX10_extend_104 : decode cX10_extend 104 = .ok (.iload 5, 2) := by decide +kernel
theorem dX10_extend_106 : decode cX10_extend 106 = .ok (.ishl, 1) := by decide +kernel
theorem dX10_extend_107 : decode cX10_extend 107 = .ok (.iconst (-1), 1) := by decide +kernel
theorem dX10_extend_108 : decode cX10_extend 108 = .ok (.ixor, 1) := by decide +kernel
theorem dX10_extend_109 : decode cX10_extend 109 = .ok (.iand, 1) := by decide +kernel
theorem dX10_extend_110 : decode cX10_extend 110 = .ok (.iload 4, 2) := by decide +kernel
theorem dX10_extend_112 : decode cX10_extend 112 = .ok (.iload 6, 2) := by decide +kernel
theorem dX10_extend_114 : decode cX10_extend 114 = .ok (.iadd, 1) := by decide +kernel
theorem dX10_extend_115 : decode cX10_extend 115 = .ok (.invokevirtual 35, 3) := by decide +kernel
theorem dX10_extend_118 : decode cX10_extend 118 = .ok (.iinc 5 1, 3) := by decide +kernel
theorem dX10_extend_121 : decode cX10_extend 121 = .ok (.goto (-88), 3) := by decide +kernel
theorem dX10_extend_124 : decode cX10_extend 124 = .ok (.return_, 1) := by decide +kernel
theorem dX11_init_0 : decode cX11_init 0 = .ok (.aload_n 0, 1) := by decide +kernel
theorem dX11_init_1 : decode cX11_init 1 = .ok (.invokespecial 3, 3) := by decide +kernel
theorem dX11_init_4 : decode cX11_init 4 = .ok (.aload_n 0, 1) := by decide +kernel
theorem dX11_init_5 : decode cX11_init 5 = .ok (.sipush 2735, 3) := by decide +kernel
theorem dX11_init_8 : decode cX11_init 8 = .ok (.newarray .int, 2) := by decide +kernel
theorem dX11_init_10 : decode cX11_init 10 = .ok (.putfield 9, 3) := by decide +kernel
theorem dX11_init_13 : decode cX11_init 13 = .ok (.aload_n 0, 1) := by decide +kernel
theorem dX11_init_14 : decode cX11_init 14 = .ok (.sipush 300, 3) := by decide +kernel
theorem dX11_init_17 : decode cX11_init 17 = .ok (.newarray .int, 2) := by decide +kernel
theorem dX11_init_19 : decode cX11_init 19 = .ok (.putfield 13, 3) := by decide +kernel
theorem dX11_init_22 : decode cX11_init 22 = .ok (.aload_n 0, 1) := by decide +kernel
theorem dX11_init_23 : decode cX11_init 23 = .ok (.iconst 0, 1) := by decide +kernel
theorem dX11_init_24 : decode cX11_init 24 = .ok (.putfield 16, 3) := by decide +kernel
theorem dX11_init_27 : decode cX11_init 27 = .ok (.aload_n 0, 1) := by decide +kernel
theorem dX11_init_28 : decode cX11_init 28 = .ok (.iconst 0, 1) := by decide +kernel
theorem dX11_init_29 : decode cX11_init 29 = .ok (.putfield 20, 3) := by decide +kernel
theorem dX11_init_32 : decode cX11_init 32 = .ok (.aload_n 0, 1) := by decide +kernel
theorem dX11_init_33 : decode cX11_init 33 = .ok (.new 24, 3) := by decide +kernel
theorem dX11_init_36 : decode cX11_init 36 = .ok (.dup, 1) := by decide +kernel
theorem dX11_init_37 : decode cX11_init 37 = .ok (.invokespecial 26, 3) := by decide +kernel
theorem dX11_init_40 : decode cX11_init 40 = .ok (.putfield 27, 3) := by decide +kernel
theorem dX11_init_43 : decode cX11_init 43 = .ok (.aload_n 0, 1) := by decide +kernel
theorem dX11_init_44 : decode cX11_init 44 = .ok (.new 31, 3) := by decide +kernel
theorem dX11_init_47 : decode cX11_init 47 = .ok (.dup, 1) := by decide +kernel
theorem dX11_init_48 : decode cX11_init 48 = .ok (.invokespecial 33, 3) := by decide +kernel
theorem dX11_init_51 : decode cX11_init 51 = .ok (.putfield 34, 3) := by decide +kernel
theorem dX11_init_54 : decode cX11_init 54 = .ok (.aload_n 0, 1) := by decide +kernel
theorem dX11_init_55 : decode cX11_init 55 = .ok (.new 38, 3) := by decide +kernel
theorem dX11_init_58 : decode cX11_init 58 = .ok (.dup, 1) := by decide +kernel
theorem dX11_init_59 : decode cX11_init 59 = .ok (.invokespecial 40, 3) := by decide +kernel
theorem dX11_init_62 : decode cX11_init 62 = .ok (.putfield 41, 3) := by decide +kernel
theorem dX11_init_65 : decode cX11_init 65 = .ok (.aload_n 0, 1) := by decide +kernel
theorem dX11_init_66 : decode cX11_init 66 = .ok (.new 45, 3) := by decide +kernel
theorem dX11_init_69 : decode cX11_init 69 = .ok (.dup, 1) := by decide +kernel
theorem dX11_init_70 : decode cX11_init 70 = .ok (.invokespecial 47, 3) := by decide +kernel
theorem dX11_init_73 : decode cX11_init 73 = .ok (.putfield 48, 3) := by decide +kernel
theorem dX11_init_76 : decode cX11_init 76 = .ok (.iconst 4, 1) := by decide +kernel
theorem dX11_init_77 : decode cX11_init 77 = .ok (.anewarray 52, 3) := by decide +kernel
theorem dX11_init_80 : decode cX11_init 80 = .ok (.astore_n 1, 1) := by decide +kernel
theorem dX11_init_81 : decode cX11_init 81 = .ok (.iconst 0, 1) := by decide +kernel
theorem dX11_init_82 : decode cX11_init 82 = .ok (.istore_n 2, 1) := by decide +kernel
theorem dX11_init_83 : decode cX11_init 83 = .ok (.iload_n 2, 1) := by decide +kernel
theorem dX11_init_84 : decode cX11_init 84 = .ok (.iconst 4, 1) := by decide +kernel
theorem dX11_init_85 : decode cX11_init 85 = .ok (.if_icmp .ge 19, 3) := by decide +kernel
theorem dX11_init_88 : decode cX11_init 88 = .ok (.aload_n 1, 1) := by decide +kernel
theorem dX11_init_89 : decode cX11_init 89 = .ok (.iload_n 2, 1) := by decide +kernel
theorem dX11_init_90 : decode cX11_init 90 = .ok (.new 52, 3) := by decide +kernel
theorem dX11_init_93 : decode cX11_init 93 = .ok (.dup, 1) := by decide +kernel
theorem dX11_init_94 : decode cX11_init 94 = .ok (.invokespecial 54, 3) := by decide +kernel
theorem dX11_init_97 : decode cX11_init 97 = .ok (.aastore, 1) := by decide +kernel
theorem dX11_init_98 : decode cX11_init 98 = .ok (.iinc 2 1, 3) := by decide +kernel
theorem dX11_init_101 : decode cX11_init 101 = .ok (.goto (-18), 3) := by decide +kernel
theorem dX11_init_104 : decode cX11_init 104 = .ok (.new 55, 3) := by decide +kernel
theorem dX11_init_107 : decode cX11_init 107 = .ok (.dup, 1) := by decide +kernel
theorem dX11_init_108 : decode cX11_init 108 = .ok (.invokespecial 57, 3) := by decide +kernel
theorem dX11_init_111 : decode cX11_init 111 = .ok (.astore_n 2, 1) := by decide +kernel
theorem dX11_init_112 : decode cX11_init 112 = .ok (.aload_n 0, 1) := by decide +kernel
theorem dX11_init_113 : decode cX11_init 113 = .ok (.aload_n 1, 1) := by decide +kernel
theorem dX11_init_114 : decode cX11_init 114 = .ok (.putfield 58, 3) := by decide +kernel
theorem dX11_init_117 : decode cX11_init 117 = .ok (.aload_n 0, 1) := by decide +kernel
theorem dX11_init_118 : decode cX11_init 118 = .ok (.new 62, 3) := by decide +kernel
theorem dX11_init_121 : decode cX11_init 121 = .ok (.dup, 1) := by decide +kernel
theorem dX11_init_122 : decode cX11_init 122 = .ok (.aload_n 1, 1) := by decide +kernel
theorem dX11_init_123 : decode cX11_init 123 = .ok (.iconst 0, 1) := by decide +kernel
theorem dX11_init_124 : decode cX11_init 124 = .ok (.aaload, 1) := by decide +kernel
theorem dX11_init_125 : decode cX11_init 125 = .ok (.invokespecial 64, 3) := by decide +kernel
theorem dX11_init_128 : decode cX11_init 128 = .ok (.putfield 67, 3) := by decide +kernel
theorem dX11_init_131 : decode cX11_init 131 = .ok (.aload_n 0, 1) := by decide +kernel
theorem dX11_init_132 : decode cX11_init 132 = .ok (.new 71, 3) := by decide +kernel
theorem dX11_init_135 : decode cX11_init 135 = .ok (.dup, 1) := by decide +kernel
theorem dX11_init_136 : decode cX11_init 136 = .ok (.sipush 2735, 3) := by decide +kernel
theorem dX11_init_139 : decode cX11_init 139 = .ok (.aload_n 1, 1) := by decide +kernel
theorem dX11_init_140 : decode cX11_init 140 = .ok (.aload_n 2, 1) := by decide +kernel
theorem dX11_init_141 : decode cX11_init 141 = .ok (.invokespecial 73, 3) := by decide +kernel
theorem dX11_init_144 : decode cX11_init 144 = .ok (.putfield 76, 3) := by decide +kernel
theorem dX11_init_147 : decode cX11_init 147 = .ok (.aload_n 0, 1) := by decide +kernel
theorem dX11_init_148 : decode cX11_init 148 = .ok (.new 71, 3) := by decide +kernel
theorem dX11_init_151 : decode cX11_init 151 = .ok (.dup, 1) := by decide +kernel
theorem dX11_init_152 : decode cX11_init 152 = .ok (.bipush 117, 2) := by decide +kernel
theorem dX11_init_154 : decode cX11_init 154 = .ok (.aload_n 1, 1) := by decide +kernel
theorem dX11_init_155 : decode cX11_init 155 = .ok (.aload_n 2, 1) := by decide +kernel
theorem dX11_init_156 : decode cX11_init 156 = .ok (.invokespecial 73, 3) := by decide +kernel
theorem dX11_init_159 : decode cX11_init 159 = .ok (.putfield 80, 3) := by decide +kernel
theorem dX11_init_162 : decode cX11_init 162 = .ok (.aload_n 0, 1) := by decide +kernel
theorem dX11_init_163 : decode cX11_init 163 = .ok (.aload_n 0, 1) := by decide +kernel
theorem dX11_init_164 : decode cX11_init 164 = .ok (.getfield 76, 3) := by decide +kernel
theorem dX11_init_167 : decode cX11_init 167 = .ok (.getfield 83, 3) := by decide +kernel
theorem dX11_init_170 : decode cX11_init 170 = .ok (.putfield 86, 3) := by decide +kernel
theorem dX11_init_173 : decode cX11_init 173 = .ok (.aload_n 0, 1) := by decide +kernel
theorem dX11_init_174 : decode cX11_init 174 = .ok (.getfield 86, 3) := by decide +kernel
theorem dX11_init_177 : decode cX11_init 177 = .ok (.bipush 52, 2) := by decide +kernel
theorem dX11_init_179 : decode cX11_init 179 = .ok (.sipush 241, 3) := by decide +kernel
theorem dX11_init_182 : decode cX11_init 182 = .ok (.iastore, 1) := by decide +kernel
theorem dX11_init_183 : decode cX11_init 183 = .ok (.aload_n 0, 1) := by decide +kernel
theorem dX11_init_184 : decode cX11_init 184 = .ok (.getfield 86, 3) := by decide +kernel
theorem dX11_init_187 : decode cX11_init 187 = .ok (.bipush 116, 2) := by decide +kernel
theorem dX11_init_189 : decode cX11_init 189 = .ok (.iconst (-1), 1) := by decide +kernel
theorem dX11_init_190 : decode cX11_init 190 = .ok (.iastore, 1) := by decide +kernel
theorem dX11_init_191 : decode cX11_init 191 = .ok (.iconst 0, 1) := by decide +kernel
theorem dX11_init_192 : decode cX11_init 192 = .ok (.istore_n 3, 1) := by decide +kernel
theorem dX11_init_193 : decode cX11_init 193 = .ok (.iload_n 3, 1) := by decide +kernel
theorem dX11_init_194 : decode cX11_init 194 = .ok (.bipush 35, 2) := by decide +kernel
theorem dX11_init_196 : decode cX11_init 196 = .ok (.if_icmp .ge 20, 3) := by decide +kernel
theorem dX11_init_199 : decode cX11_init 199 = .ok (.aload_n 0, 1) := by decide +kernel
theorem dX11_init_200 : decode cX11_init 200 = .ok (.getfield 86, 3) := by decide +kernel
theorem dX11_init_203 : decode cX11_init 203 = .ok (.bipush 118, 2) := by decide +kernel
theorem dX11_init_205 : decode cX11_init 205 = .ok (.iload_n 3, 1) := by decide +kernel
theorem dX11_init_206 : decode cX11_init 206 = .ok (.iadd, 1) := by decide +kernel
theorem dX11_init_207 : decode cX11_init 207 = .ok (.bipush 10, 2) := by decide +kernel
theorem dX11_init_209 : decode cX11_init 209 = .ok (.iastore, 1) := by decide +kernel
theorem dX11_init_210 : decode cX11_init 210 = .ok (.iinc 3 1, 3) := by decide +kernel
theorem dX11_init_213 : decode cX11_init 213 = .ok (.goto (-20), 3) := by decide +kernel
theorem dX11_init_216 : decode cX11_init 216 = .ok (.aload_n 0, 1) := by decide +kernel
theorem dX11_init_217 : decode cX11_init 217 = .ok (.getfield 86, 3) := by decide +kernel
theorem dX11_init_220 : decode cX11_init 220 = .ok (.iconst 0, 1) := by decide +kernel
theorem dX11_init_221 : decode cX11_init 221 = .ok (.aload_n 0, 1) := by decide +kernel
theorem dX11_init_222 : decode cX11_init 222 = .ok (.getfield 9, 3) := by decide +kernel
theorem dX11_init_225 : decode cX11_init 225 = .ok (.iconst 0, 1) := by decide +kernel
theorem dX11_init_226 : decode cX11_init 226 = .ok (.sipush 2735, 3) := by decide +kernel
theorem dX11_init_229 : decode cX11_init 229 = .ok (.invokestatic 87, 3) := by decide +kernel
theorem dX11_init_232 : decode cX11_init 232 = .ok (.return_, 1) := by decide +kernel
theorem dX11_person_0 : decode cX11_person 0 = .ok (.aload_n 0, 1) := by decide +kernel
theorem dX11_person_1 : decode cX11_person 1 = .ok (.getfield 86, 3) := by decide +kernel
theorem dX11_person_4 : decode cX11_person 4 = .ok (.bipush 84, 2) := by decide +kernel
theorem dX11_person_6 : decode cX11_person 6 = .ok (.iaload, 1) := by decide +kernel
theorem dX11_person_7 : decode cX11_person 7 = .ok (.istore_n 3, 1) := by decide +kernel
theorem dX11_person_8 : decode cX11_person 8 = .ok (.aload_n 0, 1) := by decide +kernel
theorem dX11_person_9 : decode cX11_person 9 = .ok (.getfield 76, 3) := by decide +kernel
theorem dX11_person_12 : decode cX11_person 12 = .ok (.iload_n 1, 1) := by decide +kernel
theorem dX11_person_13 : decode cX11_person 13 = .ok (.invokevirtual 93, 3) := by decide +kernel
theorem dX11_person_16 : decode cX11_person 16 = .ok (.ifCond .eq 8, 3) := by decide +kernel
theorem dX11_person_19 : decode cX11_person 19 = .ok (.iload_n 3, 1) := by decide +kernel
theorem dX11_person_20 : decode cX11_person 20 = .ok (.iconst 5, 1) := by decide +kernel
theorem dX11_person_21 : decode cX11_person 21 = .ok (.if_icmp .lt 5, 3) := by decide +kernel
theorem dX11_person_24 : decode cX11_person 24 = .ok (.iconst (-1), 1) := by decide +kernel
theorem dX11_person_25 : decode cX11_person 25 = .ok (.ireturn, 1) := by decide +kernel
theorem dX11_person_26 : decode cX11_person 26 = .ok (.aload_n 0, 1) := by decide +kernel
theorem dX11_person_27 : decode cX11_person 27 = .ok (.getfield 86, 3) := by decide +kernel
theorem dX11_person_30 : decode cX11_person 30 = .ok (.iconst 0, 1) := by decide +kernel
theorem dX11_person_31 : decode cX11_person 31 = .ok (.iload_n 3, 1) := by decide +kernel
theorem dX11_person_32 : decode cX11_person 32 = .ok (.iadd, 1) := by decide +kernel
theorem dX11_person_33 : decode cX11_person 33 = .ok (.iload_n 1, 1) := by decide +kernel
theorem dX11_person_34 : decode cX11_person 34 = .ok (.iastore, 1) := by decide +kernel
theorem dX11_person_35 : decode cX11_person 35 = .ok (.aload_n 0, 1) := by decide +kernel
theorem dX11_person_36 : decode cX11_person 36 = .ok (.getfield 86, 3) := by decide +kernel
theorem dX11_person_39 : decode cX11_person 39 = .ok (.iconst 5, 1) := by decide +kernel
theorem dX11_person_40 : decode cX11_person 40 = .ok (.iload_n 3, 1) := by decide +kernel
theorem dX11_person_41 : decode cX11_person 41 = .ok (.iadd, 1) := by decide +kernel
theorem dX11_person_42 : decode cX11_person 42 = .ok (.iload_n 2, 1) := by decide +kernel
theorem dX11_person_43 : decode cX11_person 43 = .ok (.ifCond .eq 7, 3) := by decide +kernel
theorem dX11_person_46 : decode cX11_person 46 = .ok (.iconst 1, 1) := by decide +kernel
theorem dX11_person_47 : decode cX11_person 47 = .ok (.goto 4, 3) := by decide +kernel
theorem dX11_person_50 : decode cX11_person 50 = .ok (.iconst 0, 1) := by decide +kernel
theorem dX11_person_51 : decode cX11_person 51 = .ok (.iastore, 1) := by decide +kernel
theorem dX11_person_52 : decode cX11_person 52 = .ok (.aload_n 0, 1) := by decide +kernel
theorem dX11_person_53 : decode cX11_person 53 = .ok (.getfield 86, 3) := by decide +kernel
theorem dX11_person_56 : decode cX11_person 56 = .ok (.bipush 10, 2) := by decide +kernel
theorem dX11_person_58 : decode cX11_person 58 = .ok (.iload_n 3, 1) := by decide +kernel
theorem dX11_person_59 : decode cX11_person 59 = .ok (.iadd, 1) := by decide +kernel
theorem dX11_person_60 : decode cX11_person 60 = .ok (.iconst 0, 1) := by decide +kernel
theorem dX11_person_61 : decode cX11_person 61 = .ok (.iastore, 1) := by decide +kernel
theorem dX11_person_62 : decode cX11_person 62 = .ok (.aload_n 0, 1) := by decide +kernel
theorem dX11_person_63 : decode cX11_person 63 = .ok (.getfield 86, 3) := by decide +kernel
theorem dX11_person_66 : decode cX11_person 66 = .ok (.bipush 15, 2) := by decide +kernel
theorem dX11_person_68 : decode cX11_person 68 = .ok (.iload_n 3, 1) := by decide +kernel
theorem dX11_person_69 : decode cX11_person 69 = .ok (.iadd, 1) := by decide +kernel
theorem dX11_person_70 : decode cX11_person 70 = .ok (.iconst 0, 1) := by decide +kernel
theorem dX11_person_71 : decode cX11_person 71 = .ok (.iastore, 1) := by decide +kernel
theorem dX11_person_72 : decode cX11_person 72 = .ok (.aload_n 0, 1) := by decide +kernel
theorem dX11_person_73 : decode cX11_person 73 = .ok (.getfield 86, 3) := by decide +kernel
theorem dX11_person_76 : decode cX11_person 76 = .ok (.bipush 84, 2) := by decide +kernel
theorem dX11_person_78 : decode cX11_person 78 = .ok (.iload_n 3, 1) := by decide +kernel
theorem dX11_person_79 : decode cX11_person 79 = .ok (.iconst 1, 1) := by decide +kernel
theorem dX11_person_80 : decode cX11_person 80 = .ok (.iadd, 1) := by decide +kernel
theorem dX11_person_81 : decode cX11_person 81 = .ok (.iastore, 1) := by decide +kernel
theorem dX11_person_82 : decode cX11_person 82 = .ok (.iload_n 3, 1) := by decide +kernel
theorem dX11_person_83 : decode cX11_person 83 = .ok (.ireturn, 1) := by decide +kernel
theorem dX11_field_0 : decode cX11_field 0 = .ok (.iload_n 1, 1) := by decide +kernel
theorem dX11_field_1 : decode cX11_field 1 = .ok (.invokestatic 97, 3) := by decide +kernel
theorem dX11_field_4 : decode cX11_field 4 = .ok (.ifCond .eq 13, 3) := by decide +kernel
theorem dX11_field_7 : decode cX11_field 7 = .ok (.iload_n 2, 1) := by decide +kernel
theorem dX11_field_8 : decode cX11_field 8 = .ok (.iconst 0, 1) := by decide +kernel
theorem dX11_field_9 : decode cX11_field 9 = .ok (.bipush 99, 2) := by decide +kernel
theorem dX11_field_11 : decode cX11_field 11 = .ok (.invokestatic 100, 3) := by decide +kernel
theorem dX11_field_14 : decode cX11_field 14 = .ok (.ifCond .ne 5, 3) := by decide +kernel
theorem dX11_field_17 : decode cX11_field 17 = .ok (.iconst 0, 1) := by decide +kernel
theorem dX11_field_18 : decode cX11_field 18 = .ok (.ireturn, 1) := by decide +kernel
theorem dX11_field_19 : decode cX11_field 19 = .ok (.aload_n 0, 1) := by decide +kernel
theorem dX11_field_20 : decode cX11_field 20 = .ok (.getfield 86, 3) := by decide +kernel
theorem dX11_field_23 : decode cX11_field 23 = .ok (.bipush 86, 2) := by decide +kernel
theorem dX11_field_25 : decode cX11_field 25 = .ok (.iload_n 1, 1) := by decide +kernel
theorem dX11_field_26 : decode cX11_field 26 = .ok (.iadd, 1) := by decide +kernel
theorem dX11_field_27 : decode cX11_field 27 = .ok (.iload_n 2, 1) := by decide +kernel
theorem dX11_field_28 : decode cX11_field 28 = .ok (.iastore, 1) := by decide +kernel
theorem dX11_field_29 : decode cX11_field 29 = .ok (.iconst 1, 1) := by decide +kernel
theorem dX11_field_30 : decode cX11_field 30 = .ok (.ireturn, 1) := by decide +kernel
theorem dX11_shed_0 : decode cX11_shed 0 = .ok (.iload_n 1, 1) := by decide +kernel
theorem dX11_shed_1 : decode cX11_shed 1 = .ok (.invokestatic 97, 3) := by decide +kernel
theorem dX11_shed_4 : decode cX11_shed 4 = .ok (.ifCond .eq 37, 3) := by decide +kernel
theorem dX11_shed_7 : decode cX11_shed 7 = .ok (.iload_n 2, 1) := by decide +kernel
theorem dX11_shed_8 : decode cX11_shed 8 = .ok (.aload_n 0, 1) := by decide +kernel
theorem dX11_shed_9 : decode cX11_shed 9 = .ok (.getfield 76, 3) := by decide +kernel
theorem dX11_shed_12 : decode cX11_shed 12 = .ok (.iload_n 1, 1) := by decide +kernel
theorem dX11_shed_13 : decode cX11_shed 13 = .ok (.invokevirtual 93, 3) := by decide +kernel
theorem dX11_shed_16 : decode cX11_shed 16 = .ok (.if_icmp .ne 25, 3) := by decide +kernel
theorem dX11_shed_19 : decode cX11_shed 19 = .ok (.aload_n 0, 1) := by decide +kernel
theorem dX11_shed_20 : decode cX11_shed 20 = .ok (.getfield 86, 3) := by decide +kernel
theorem dX11_shed_23 : decode cX11_shed 23 = .ok (.bipush 50, 2) := by decide +kernel
theorem dX11_shed_25 : decode cX11_shed 25 = .ok (.iaload, 1) := by decide +kernel
theorem dX11_shed_26 : decode cX11_shed 26 = .ok (.iload_n 1, 1) := by decide +kernel
theorem dX11_shed_27 : decode cX11_shed 27 = .ok (.if_icmp .eq 14, 3) := by decide +kernel
theorem dX11_shed_30 : decode cX11_shed 30 = .ok (.aload_n 0, 1) := by decide +kernel
theorem dX11_shed_31 : decode cX11_shed 31 = .ok (.getfield 76, 3) := by decide +kernel
theorem dX11_shed_34 : decode cX11_shed 34 = .ok (.iload_n 1, 1) := by decide +kernel
theorem dX11_shed_35 : decode cX11_shed 35 = .ok (.invokevirtual 104, 3) := by decide +kernel
theorem dX11_shed_38 : decode cX11_shed 38 = .ok (.ifCond .eq 5, 3) := by decide +kernel
theorem dX11_shed_41 : decode cX11_shed 41 = .ok (.iconst 0, 1) := by decide +kernel
theorem dX11_shed_42 : decode cX11_shed 42 = .ok (.ireturn, 1) := by decide +kernel
theorem dX11_shed_43 : decode cX11_shed 43 = .ok (.aload_n 0, 1) := by decide +kernel
theorem dX11_shed_44 : decode cX11_shed 44 = .ok (.getfield 86, 3) := by decide +kernel
theorem dX11_shed_47 : decode cX11_shed 47 = .ok (.bipush 85, 2) := by decide +kernel
theorem dX11_shed_49 : decode cX11_shed 49 = .ok (.dup2, 1) := by decide +kernel
theorem dX11_shed_50 : decode cX11_shed 50 = .ok (.iaload, 1) := by decide +kernel
theorem dX11_shed_51 : decode cX11_shed 51 = .ok (.iconst 1, 1) := by decide +kernel
theorem dX11_shed_52 : decode cX11_shed 52 = .ok (.iload_n 1, 1) := by decide +kernel
theorem dX11_shed_53 : decode cX11_shed 53 = .ok (.ishl, 1) := by decide +kernel
theorem dX11_shed_54 : decode cX11_shed 54 = .ok (.ixor, 1) := by decide +kernel
theorem dX11_shed_55 : decode cX11_shed 55 = .ok (.iastore, 1) := by decide +kernel
theorem dX11_shed_56 : decode cX11_shed 56 = .ok (.iconst 1, 1) := by decide +kernel
theorem dX11_shed_57 : decode cX11_shed 57 = .ok (.ireturn, 1) := by decide +kernel
theorem dX11_feed_0 : decode cX11_feed 0 = .ok (.aload_n 0, 1) := by decide +kernel
theorem dX11_feed_1 : decode cX11_feed 1 = .ok (.getfield 16, 3) := by decide +kernel
theorem dX11_feed_4 : decode cX11_feed 4 = .ok (.bipush 20, 2) := by decide +kernel
theorem dX11_feed_6 : decode cX11_feed 6 = .ok (.iadd, 1) := by decide +kernel
theorem dX11_feed_7 : decode cX11_feed 7 = .ok (.sipush 300, 3) := by decide +kernel
theorem dX11_feed_10 : decode cX11_feed 10 = .ok (.if_icmp .le 5, 3) := by decide +kernel
theorem dX11_feed_13 : decode cX11_feed 13 = .ok (.iconst (-1), 1) := by decide +kernel
theorem dX11_feed_14 : decode cX11_feed 14 = .ok (.ireturn, 1) := by decide +kernel
theorem dX11_feed_15 : decode cX11_feed 15 = .ok (.aload_n 0, 1) := by decide +kernel
theorem dX11_feed_16 : decode cX11_feed 16 = .ok (.iload_n 1, 1) := by decide +kernel
theorem dX11_feed_17 : decode cX11_feed 17 = .ok (.invokevirtual 108, 3) := by decide +kernel
theorem dX11_feed_20 : decode cX11_feed 20 = .ok (.aload_n 0, 1) := by decide +kernel
theorem dX11_feed_21 : decode cX11_feed 21 = .ok (.iload_n 2, 1) := by decide +kernel
theorem dX11_feed_22 : decode cX11_feed 22 = .ok (.invokevirtual 108, 3) := by decide +kernel
theorem dX11_feed_25 : decode cX11_feed 25 = .ok (.aload_n 0, 1) := by decide +kernel
theorem dX11_feed_26 : decode cX11_feed 26 = .ok (.iload_n 3, 1) := by decide +kernel
theorem dX11_feed_27 : decode cX11_feed 27 = .ok (.invokevirtual 108, 3) := by decide +kernel
theorem dX11_feed_30 : decode cX11_feed 30 = .ok (.aload_n 0, 1) := by decide +kernel
theorem dX11_feed_31 : decode cX11_feed 31 = .ok (.iload 4, 2) := by decide +kernel
theorem dX11_feed_33 : decode cX11_feed 33 = .ok (.invokevirtual 108, 3) := by decide +kernel
theorem dX11_feed_36 : decode cX11_feed 36 = .ok (.aload_n 0, 1) := by decide +kernel
theorem dX11_feed_37 : decode cX11_feed 37 = .ok (.iload 5, 2) := by decide +kernel
theorem dX11_feed_39 : decode cX11_feed 39 = .ok (.invokevirtual 108, 3) := by decide +kernel
theorem dX11_feed_42 : decode cX11_feed 42 = .ok (.aload_n 0, 1) := by decide +kernel
theorem dX11_feed_43 : decode cX11_feed 43 = .ok (.getfield 16, 3) := by decide +kernel
theorem dX11_feed_46 : decode cX11_feed 46 = .ok (.ireturn, 1) := by decide +kernel
theorem dX11_takeBytes_0 : decode cX11_takeBytes 0 = .ok (.bipush 24, 2) := by decide +kernel
theorem dX11_takeBytes_2 : decode cX11_takeBytes 2 = .ok (.istore_n 2, 1) := by decide +kernel
theorem dX11_takeBytes_3 : decode cX11_takeBytes 3 = .ok (.iload_n 2, 1) := by decide +kernel
theorem dX11_takeBytes_4 : decode cX11_takeBytes 4 = .ok (.ifCond .lt 45, 3) := by decide +kernel
theorem dX11_takeBytes_7 : decode cX11_takeBytes 7 = .ok (.aload_n 0, 1) := by decide +kernel
theorem dX11_takeBytes_8 : decode cX11_takeBytes 8 = .ok (.getfield 16, 3) := by decide +kernel
theorem dX11_takeBytes_11 : decode cX11_takeBytes 11 = .ok (.sipush 300, 3) := by decide +kernel
theorem dX11_takeBytes_14 : decode cX11_takeBytes 14 = .ok (.if_icmp .ge 35, 3) := by decide +kernel
theorem dX11_takeBytes_17 : decode cX11_takeBytes 17 = .ok (.aload_n 0, 1) := by decide +kernel
theorem dX11_takeBytes_18 : decode cX11_takeBytes 18 = .ok (.getfield 13, 3) := by decide +kernel
theorem dX11_takeBytes_21 : decode cX11_takeBytes 21 = .ok (.aload_n 0, 1) := by decide +kernel
theorem dX11_takeBytes_22 : decode cX11_takeBytes 22 = .ok (.getfield 16, 3) := by decide +kernel
theorem dX11_takeBytes_25 : decode cX11_takeBytes 25 = .ok (.iload_n 1, 1) := by decide +kernel
theorem dX11_takeBytes_26 : decode cX11_takeBytes 26 = .ok (.iload_n 2, 1) := by decide +kernel
theorem dX11_takeBytes_27 : decode cX11_takeBytes 27 = .ok (.iushr, 1) := by decide +kernel
theorem dX11_takeBytes_28 : decode cX11_takeBytes 28 = .ok (.sipush 255, 3) := by decide +kernel
theorem dX11_takeBytes_31 : decode cX11_takeBytes 31 = .ok (.iand, 1) := by decide +kernel
theorem dX11_takeBytes_32 : decode cX11_takeBytes 32 = .ok (.iastore, 1) := by decide +kernel
theorem dX11_takeBytes_33 : decode cX11_takeBytes 33 = .ok (.aload_n 0, 1) := by decide +kernel
theorem dX11_takeBytes_34 : decode cX11_takeBytes 34 = .ok (.dup, 1) := by decide +kernel
theorem dX11_takeBytes_35 : decode cX11_takeBytes 35 = .ok (.getfield 16, 3) := by decide +kernel
theorem dX11_takeBytes_38 : decode cX11_takeBytes 38 = .ok (.iconst 1, 1) := by decide +kernel
theorem dX11_takeBytes_39 : decode cX11_takeBytes 39 = .ok (.iadd, 1) := by decide +kernel
theorem dX11_takeBytes_40 : decode cX11_takeBytes 40 = .ok (.putfield 16, 3) := by decide +kernel
theorem dX11_takeBytes_43 : decode cX11_takeBytes 43 = .ok (.iinc 2 (-8), 3) := by decide +kernel
theorem dX11_takeBytes_46 : decode cX11_takeBytes 46 = .ok (.goto (-43), 3) := by decide +kernel
theorem dX11_takeBytes_49 : decode cX11_takeBytes 49 = .ok (.return_, 1) := by decide +kernel
theorem dX11_end_0 : decode cX11_end 0 = .ok (.iload_n 1, 1) := by decide +kernel
theorem dX11_end_1 : decode cX11_end 1 = .ok (.iconst 0, 1) := by decide +kernel
theorem dX11_end_2 : decode cX11_end 2 = .ok (.aload_n 0, 1) := by decide +kernel
theorem dX11_end_3 : decode cX11_end 3 = .ok (.getfield 16, 3) := by decide +kernel
theorem dX11_end_6 : decode cX11_end 6 = .ok (.invokestatic 100, 3) := by decide +kernel
theorem dX11_end_9 : decode cX11_end 9 = .ok (.ifCond .ne 5, 3) := by decide +kernel
theorem dX11_end_12 : decode cX11_end 12 = .ok (.iconst (-1), 1) := by decide +kernel
theorem dX11_end_13 : decode cX11_end 13 = .ok (.ireturn, 1) := by decide +kernel
theorem dX11_end_14 : decode cX11_end 14 = .ok (.aload_n 0, 1) := by decide +kernel
theorem dX11_end_15 : decode cX11_end 15 = .ok (.iload_n 1, 1) := by decide +kernel
theorem dX11_end_16 : decode cX11_end 16 = .ok (.putfield 16, 3) := by decide +kernel
theorem dX11_end_19 : decode cX11_end 19 = .ok (.iload_n 1, 1) := by decide +kernel
theorem dX11_end_20 : decode cX11_end 20 = .ok (.ireturn, 1) := by decide +kernel
theorem dX11_text_0 : decode cX11_text 0 = .ok (.aload_n 0, 1) := by decide +kernel
theorem dX11_text_1 : decode cX11_text 1 = .ok (.getfield 86, 3) := by decide +kernel
theorem dX11_text_4 : decode cX11_text 4 = .ok (.bipush 117, 2) := by decide +kernel
theorem dX11_text_6 : decode cX11_text 6 = .ok (.iaload, 1) := by decide +kernel
theorem dX11_text_7 : decode cX11_text 7 = .ok (.istore_n 1, 1) := by decide +kernel
theorem dX11_text_8 : decode cX11_text 8 = .ok (.iload_n 1, 1) := by decide +kernel
theorem dX11_text_9 : decode cX11_text 9 = .ok (.iconst 4, 1) := by decide +kernel
theorem dX11_text_10 : decode cX11_text 10 = .ok (.if_icmp .lt 5, 3) := by decide +kernel
theorem dX11_text_13 : decode cX11_text 13 = .ok (.iconst (-1), 1) := by decide +kernel
theorem dX11_text_14 : decode cX11_text 14 = .ok (.ireturn, 1) := by decide +kernel
theorem dX11_text_15 : decode cX11_text 15 = .ok (.aload_n 0, 1) := by decide +kernel
theorem dX11_text_16 : decode cX11_text 16 = .ok (.getfield 67, 3) := by decide +kernel
theorem dX11_text_19 : decode cX11_text 19 = .ok (.aload_n 0, 1) := by decide +kernel
theorem dX11_text_20 : decode cX11_text 20 = .ok (.getfield 13, 3) := by decide +kernel
theorem dX11_text_23 : decode cX11_text 23 = .ok (.aload_n 0, 1) := by decide +kernel
theorem dX11_text_24 : decode cX11_text 24 = .ok (.getfield 16, 3) := by decide +kernel
theorem dX11_text_27 : decode cX11_text 27 = .ok (.aload_n 0, 1) := by decide +kernel
theorem dX11_text_28 : decode cX11_text 28 = .ok (.getfield 58, 3) := by decide +kernel
theorem dX11_text_31 : decode cX11_text 31 = .ok (.iload_n 1, 1) := by decide +kernel
theorem dX11_text_32 : decode cX11_text 32 = .ok (.aaload, 1) := by decide +kernel
theorem dX11_text_33 : decode cX11_text 33 = .ok (.invokevirtual 112, 3) := by decide +kernel
theorem dX11_text_36 : decode cX11_text 36 = .ok (.aload_n 0, 1) := by decide +kernel
theorem dX11_text_37 : decode cX11_text 37 = .ok (.iconst 1, 1) := by decide +kernel
theorem dX11_text_38 : decode cX11_text 38 = .ok (.putfield 20, 3) := by decide +kernel
theorem dX11_text_41 : decode cX11_text 41 = .ok (.aload_n 0, 1) := by decide +kernel
theorem dX11_text_42 : decode cX11_text 42 = .ok (.iconst 0, 1) := by decide +kernel
theorem dX11_text_43 : decode cX11_text 43 = .ok (.putfield 16, 3) := by decide +kernel
theorem dX11_text_46 : decode cX11_text 46 = .ok (.aload_n 0, 1) := by decide +kernel
theorem dX11_text_47 : decode cX11_text 47 = .ok (.getfield 67, 3) := by decide +kernel
theorem dX11_text_50 : decode cX11_text 50 = .ok (.getfield 116, 3) := by decide +kernel
theorem dX11_text_53 : decode cX11_text 53 = .ok (.ifCond .eq 5, 3) := by decide +kernel
theorem dX11_text_56 : decode cX11_text 56 = .ok (.iconst (-1), 1) := by decide +kernel
theorem dX11_text_57 : decode cX11_text 57 = .ok (.ireturn, 1) := by decide +kernel
theorem dX11_text_58 : decode cX11_text 58 = .ok (.aload_n 0, 1) := by decide +kernel
theorem dX11_text_59 : decode cX11_text 59 = .ok (.getfield 86, 3) := by decide +kernel
theorem dX11_text_62 : decode cX11_text 62 = .ok (.bipush 117, 2) := by decide +kernel
theorem dX11_text_64 : decode cX11_text 64 = .ok (.iload_n 1, 1) := by decide +kernel
theorem dX11_text_65 : decode cX11_text 65 = .ok (.iconst 1, 1) := by decide +kernel
theorem dX11_text_66 : decode cX11_text 66 = .ok (.iadd, 1) := by decide +kernel
theorem dX11_text_67 : decode cX11_text 67 = .ok (.iastore, 1) := by decide +kernel
theorem dX11_text_68 : decode cX11_text 68 = .ok (.iload_n 1, 1) := by decide +kernel
theorem dX11_text_69 : decode cX11_text 69 = .ok (.ireturn, 1) := by decide +kernel
theorem dX11_fault_0 : decode cX11_fault 0 = .ok (.aload_n 0, 1) := by decide +kernel
theorem dX11_fault_1 : decode cX11_fault 1 = .ok (.getfield 20, 3) := by decide +kernel
theorem dX11_fault_4 : decode cX11_fault 4 = .ok (.ifCond .eq 12, 3) := by decide +kernel
theorem dX11_fault_7 : decode cX11_fault 7 = .ok (.iload_n 1, 1) := by decide +kernel
theorem dX11_fault_8 : decode cX11_fault 8 = .ok (.iconst 0, 1) := by decide +kernel
theorem dX11_fault_9 : decode cX11_fault 9 = .ok (.iconst 1, 1) := by decide +kernel
theorem dX11_fault_10 : decode cX11_fault 10 = .ok (.invokestatic 100, 3) := by decide +kernel
theorem dX11_fault_13 : decode cX11_fault 13 = .ok (.ifCond .ne 5, 3) := by decide +kernel
theorem dX11_fault_16 : decode cX11_fault 16 = .ok (.iconst (-1), 1) := by decide +kernel
theorem dX11_fault_17 : decode cX11_fault 17 = .ok (.ireturn, 1) := by decide +kernel
theorem dX11_fault_18 : decode cX11_fault 18 = .ok (.iload_n 1, 1) := by decide +kernel
theorem dX11_fault_19 : decode cX11_fault 19 = .ok (.ifCond .ne 13, 3) := by decide +kernel
theorem dX11_fault_22 : decode cX11_fault 22 = .ok (.aload_n 0, 1) := by decide +kernel
theorem dX11_fault_23 : decode cX11_fault 23 = .ok (.getfield 67, 3) := by decide +kernel
theorem dX11_fault_26 : decode cX11_fault 26 = .ok (.getfield 116, 3) := by decide +kernel
theorem dX11_fault_29 : decode cX11_fault 29 = .ok (.goto 10, 3) := by decide +kernel
theorem dX11_fault_32 : decode cX11_fault 32 = .ok (.aload_n 0, 1) := by decide +kernel
theorem dX11_fault_33 : decode cX11_fault 33 = .ok (.getfield 67, 3) := by decide +kernel
theorem dX11_fault_36 : decode cX11_fault 36 = .ok (.getfield 119, 3) := by decide +kernel
theorem dX11_fault_39 : decode cX11_fault 39 = .ok (.ireturn, 1) := by decide +kernel
theorem dX11_by_0 : decode cX11_by 0 = .ok (.iload_n 1, 1) := by decide +kernel
theorem dX11_by_1 : decode cX11_by 1 = .ok (.iconst (-1), 1) := by decide +kernel
theorem dX11_by_2 : decode cX11_by 2 = .ok (.if_icmp .eq 13, 3) := by decide +kernel
theorem dX11_by_5 : decode cX11_by 5 = .ok (.aload_n 0, 1) := by decide +kernel
theorem dX11_by_6 : decode cX11_by 6 = .ok (.iload_n 1, 1) := by decide +kernel
theorem dX11_by_7 : decode cX11_by 7 = .ok (.invokevirtual 122, 3) := by decide +kernel
theorem dX11_by_10 : decode cX11_by 10 = .ok (.ifCond .ne 5, 3) := by decide +kernel
theorem dX11_by_13 : decode cX11_by 13 = .ok (.iconst 0, 1) := by decide +kernel
theorem dX11_by_14 : decode cX11_by 14 = .ok (.ireturn, 1) := by decide +kernel
theorem dX11_by_15 : decode cX11_by 15 = .ok (.aload_n 0, 1) := by decide +kernel
theorem dX11_by_16 : decode cX11_by 16 = .ok (.getfield 86, 3) := by decide +kernel
theorem dX11_by_19 : decode cX11_by 19 = .ok (.bipush 116, 2) := by decide +kernel
theorem dX11_by_21 : decode cX11_by 21 = .ok (.iload_n 1, 1) := by decide +kernel
theorem dX11_by_22 : decode cX11_by 22 = .ok (.iastore, 1) := by decide +kernel
theorem dX11_by_23 : decode cX11_by 23 = .ok (.iconst 1, 1) := by decide +kernel
theorem dX11_by_24 : decode cX11_by 24 = .ok (.ireturn, 1) := by decide +kernel
theorem dX11_walk_0 : decode cX11_walk 0 = .ok (.aload_n 0, 1) := by decide +kernel
theorem dX11_walk_1 : decode cX11_walk 1 = .ok (.iload_n 1, 1) := by decide +kernel
theorem dX11_walk_2 : decode cX11_walk 2 = .ok (.invokevirtual 125, 3) := by decide +kernel
theorem dX11_walk_5 : decode cX11_walk 5 = .ok (.ifCond .eq 15, 3) := by decide +kernel
theorem dX11_walk_8 : decode cX11_walk 8 = .ok (.aload_n 0, 1) := by decide +kernel
theorem dX11_walk_9 : decode cX11_walk 9 = .ok (.getfield 76, 3) := by decide +kernel
theorem dX11_walk_12 : decode cX11_walk 12 = .ok (.iload_n 1, 1) := by decide +kernel
theorem dX11_walk_13 : decode cX11_walk 13 = .ok (.iload_n 2, 1) := by decide +kernel
theorem dX11_walk_14 : decode cX11_walk 14 = .ok (.invokevirtual 128, 3) := by decide +kernel
theorem dX11_walk_17 : decode cX11_walk 17 = .ok (.ifCond .ne 5, 3) := by decide +kernel
theorem dX11_walk_20 : decode cX11_walk 20 = .ok (.iconst 0, 1) := by decide +kernel
theorem dX11_walk_21 : decode cX11_walk 21 = .ok (.ireturn, 1) := by decide +kernel
theorem dX11_walk_22 : decode cX11_walk 22 = .ok (.aload_n 0, 1) := by decide +kernel
theorem dX11_walk_23 : decode cX11_walk 23 = .ok (.invokevirtual 132, 3) := by decide +kernel
theorem dX11_walk_26 : decode cX11_walk 26 = .ok (.aload_n 0, 1) := by decide +kernel
theorem dX11_walk_27 : decode cX11_walk 27 = .ok (.getfield 86, 3) := by decide +kernel
theorem dX11_walk_30 : decode cX11_walk 30 = .ok (.iconst 0, 1) := by decide +kernel
theorem dX11_walk_31 : decode cX11_walk 31 = .ok (.iload_n 1, 1) := by decide +kernel
theorem dX11_walk_32 : decode cX11_walk 32 = .ok (.iadd, 1) := by decide +kernel
theorem dX11_walk_33 : decode cX11_walk 33 = .ok (.iload_n 2, 1) := by decide +kernel
theorem dX11_walk_34 : decode cX11_walk 34 = .ok (.iastore, 1) := by decide +kernel
theorem dX11_walk_35 : decode cX11_walk 35 = .ok (.iconst 1, 1) := by decide +kernel
theorem dX11_walk_36 : decode cX11_walk 36 = .ok (.ireturn, 1) := by decide +kernel
theorem dX11_hat_0 : decode cX11_hat 0 = .ok (.iload_n 2, 1) := by decide +kernel
theorem dX11_hat_1 : decode cX11_hat 1 = .ok (.ifCond .eq 7, 3) := by decide +kernel
theorem dX11_hat_4 : decode cX11_hat 4 = .ok (.iconst 1, 1) := by decide +kernel
theorem dX11_hat_5 : decode cX11_hat 5 = .ok (.goto 4, 3) := by decide +kernel
theorem dX11_hat_8 : decode cX11_hat 8 = .ok (.iconst 0, 1) := by decide +kernel
theorem dX11_hat_9 : decode cX11_hat 9 = .ok (.istore_n 3, 1) := by decide +kernel
theorem dX11_hat_10 : decode cX11_hat 10 = .ok (.aload_n 0, 1) := by decide +kernel
theorem dX11_hat_11 : decode cX11_hat 11 = .ok (.iload_n 1, 1) := by decide +kernel
theorem dX11_hat_12 : decode cX11_hat 12 = .ok (.invokevirtual 125, 3) := by decide +kernel
theorem dX11_hat_15 : decode cX11_hat 15 = .ok (.ifCond .eq 15, 3) := by decide +kernel
theorem dX11_hat_18 : decode cX11_hat 18 = .ok (.aload_n 0, 1) := by decide +kernel
theorem dX11_hat_19 : decode cX11_hat 19 = .ok (.getfield 86, 3) := by decide +kernel
theorem dX11_hat_22 : decode cX11_hat 22 = .ok (.iconst 5, 1) := by decide +kernel
theorem dX11_hat_23 : decode cX11_hat 23 = .ok (.iload_n 1, 1) := by decide +kernel
theorem dX11_hat_24 : decode cX11_hat 24 = .ok (.iadd, 1) := by decide +kernel
theorem dX11_hat_25 : decode cX11_hat 25 = .ok (.iaload, 1) := by decide +kernel
theorem dX11_hat_26 : decode cX11_hat 26 = .ok (.iload_n 3, 1) := by decide +kernel
theorem dX11_hat_27 : decode cX11_hat 27 = .ok (.if_icmp .ne 5, 3) := by decide +kernel
theorem dX11_hat_30 : decode cX11_hat 30 = .ok (.iconst 0, 1) := by decide +kernel
theorem dX11_hat_31 : decode cX11_hat 31 = .ok (.ireturn, 1) := by decide +kernel
theorem dX11_hat_32 : decode cX11_hat 32 = .ok (.aload_n 0, 1) := by decide +kernel
theorem dX11_hat_33 : decode cX11_hat 33 = .ok (.invokevirtual 132, 3) := by decide +kernel
theorem dX11_hat_36 : decode cX11_hat 36 = .ok (.aload_n 0, 1) := by decide +kernel
theorem dX11_hat_37 : decode cX11_hat 37 = .ok (.getfield 86, 3) := by decide +kernel
theorem dX11_hat_40 : decode cX11_hat 40 = .ok (.iconst 5, 1) := by decide +kernel
theorem dX11_hat_41 : decode cX11_hat 41 = .ok (.iload_n 1, 1) := by decide +kernel
theorem dX11_hat_42 : decode cX11_hat 42 = .ok (.iadd, 1) := by decide +kernel
theorem dX11_hat_43 : decode cX11_hat 43 = .ok (.iload_n 3, 1) := by decide +kernel
theorem dX11_hat_44 : decode cX11_hat 44 = .ok (.iastore, 1) := by decide +kernel
theorem dX11_hat_45 : decode cX11_hat 45 = .ok (.iconst 1, 1) := by decide +kernel
theorem dX11_hat_46 : decode cX11_hat 46 = .ok (.ireturn, 1) := by decide +kernel
theorem dX11_draw_0 : decode cX11_draw 0 = .ok (.aload_n 0, 1) := by decide +kernel
theorem dX11_draw_1 : decode cX11_draw 1 = .ok (.getfield 86, 3) := by decide +kernel
theorem dX11_draw_4 : decode cX11_draw 4 = .ok (.bipush 84, 2) := by decide +kernel
theorem dX11_draw_6 : decode cX11_draw 6 = .ok (.iaload, 1) := by decide +kernel
theorem dX11_draw_7 : decode cX11_draw 7 = .ok (.istore_n 1, 1) := by decide +kernel
theorem dX11_draw_8 : decode cX11_draw 8 = .ok (.iload_n 1, 1) := by decide +kernel
theorem dX11_draw_9 : decode cX11_draw 9 = .ok (.ifCond .gt 5, 3) := by decide +kernel
theorem dX11_draw_12 : decode cX11_draw 12 = .ok (.iconst (-1), 1) := by decide +kernel
theorem dX11_draw_13 : decode cX11_draw 13 = .ok (.ireturn, 1) := by decide +kernel
theorem dX11_draw_14 : decode cX11_draw 14 = .ok (.aload_n 0, 1) := by decide +kernel
theorem dX11_draw_15 : decode cX11_draw 15 = .ok (.invokevirtual 132, 3) := by decide +kernel
theorem dX11_draw_18 : decode cX11_draw 18 = .ok (.aload_n 0, 1) := by decide +kernel
theorem dX11_draw_19 : decode cX11_draw 19 = .ok (.getfield 76, 3) := by decide +kernel
theorem dX11_draw_22 : decode cX11_draw 22 = .ok (.invokevirtual 135, 3) := by decide +kernel
theorem dX11_draw_25 : decode cX11_draw 25 = .ok (.iload_n 1, 1) := by decide +kernel
theorem dX11_draw_26 : decode cX11_draw 26 = .ok (.irem, 1) := by decide +kernel
theorem dX11_draw_27 : decode cX11_draw 27 = .ok (.istore_n 2, 1) := by decide +kernel
theorem dX11_draw_28 : decode cX11_draw 28 = .ok (.iconst 0, 1) := by decide +kernel
theorem dX11_draw_29 : decode cX11_draw 29 = .ok (.istore_n 3, 1) := by decide +kernel
theorem dX11_draw_30 : decode cX11_draw 30 = .ok (.iload_n 3, 1) := by decide +kernel
theorem dX11_draw_31 : decode cX11_draw 31 = .ok (.iload_n 1, 1) := by decide +kernel
theorem dX11_draw_32 : decode cX11_draw 32 = .ok (.if_icmp .ge 27, 3) := by decide +kernel
theorem dX11_draw_35 : decode cX11_draw 35 = .ok (.aload_n 0, 1) := by decide +kernel
theorem dX11_draw_36 : decode cX11_draw 36 = .ok (.getfield 86, 3) := by decide +kernel
theorem dX11_draw_39 : decode cX11_draw 39 = .ok (.iconst 5, 1) := by decide +kernel
theorem dX11_draw_40 : decode cX11_draw 40 = .ok (.iload_n 3, 1) := by decide +kernel
theorem dX11_draw_41 : decode cX11_draw 41 = .ok (.iadd, 1) := by decide +kernel
theorem dX11_draw_42 : decode cX11_draw 42 = .ok (.iload_n 3, 1) := by decide +kernel
theorem dX11_draw_43 : decode cX11_draw 43 = .ok (.iload_n 2, 1) := by decide +kernel
theorem dX11_draw_44 : decode cX11_draw 44 = .ok (.if_icmp .ne 7, 3) := by decide +kernel
theorem dX11_draw_47 : decode cX11_draw 47 = .ok (.iconst 1, 1) := by decide +kernel
theorem dX11_draw_48 : decode cX11_draw 48 = .ok (.goto 4, 3) := by decide +kernel
theorem dX11_draw_51 : decode cX11_draw 51 = .ok (.iconst 0, 1) := by decide +kernel
theorem dX11_draw_52 : decode cX11_draw 52 = .ok (.iastore, 1) := by decide +kernel
theorem dX11_draw_53 : decode cX11_draw 53 = .ok (.iinc 3 1, 3) := by decide +kernel
theorem dX11_draw_56 : decode cX11_draw 56 = .ok (.goto (-26), 3) := by decide +kernel
theorem dX11_draw_59 : decode cX11_draw 59 = .ok (.iload_n 2, 1) := by decide +kernel
theorem dX11_draw_60 : decode cX11_draw 60 = .ok (.ireturn, 1) := by decide +kernel
theorem dX11_minute_0 : decode cX11_minute 0 = .ok (.iload_n 1, 1) := by decide +kernel
theorem dX11_minute_1 : decode cX11_minute 1 = .ok (.iconst 1, 1) := by decide +kernel
theorem dX11_minute_2 : decode cX11_minute 2 = .ok (.bipush 60, 2) := by decide +kernel
theorem dX11_minute_4 : decode cX11_minute 4 = .ok (.invokestatic 100, 3) := by decide +kernel
theorem dX11_minute_7 : decode cX11_minute 7 = .ok (.ifCond .eq 18, 3) := by decide +kernel
theorem dX11_minute_10 : decode cX11_minute 10 = .ok (.aload_n 0, 1) := by decide +kernel
theorem dX11_minute_11 : decode cX11_minute 11 = .ok (.getfield 86, 3) := by decide +kernel
theorem dX11_minute_14 : decode cX11_minute 14 = .ok (.bipush 51, 2) := by decide +kernel
theorem dX11_minute_16 : decode cX11_minute 16 = .ok (.iaload, 1) := by decide +kernel
theorem dX11_minute_17 : decode cX11_minute 17 = .ok (.iload_n 1, 1) := by decide +kernel
theorem dX11_minute_18 : decode cX11_minute 18 = .ok (.iadd, 1) := by decide +kernel
theorem dX11_minute_19 : decode cX11_minute 19 = .ok (.sipush 9999, 3) := by decide +kernel
theorem dX11_minute_22 : decode cX11_minute 22 = .ok (.if_icmp .le 5, 3) := by decide +kernel
theorem dX11_minute_25 : decode cX11_minute 25 = .ok (.iconst (-1), 1) := by decide +kernel
theorem dX11_minute_26 : decode cX11_minute 26 = .ok (.ireturn, 1) := by decide +kernel
theorem dX11_minute_27 : decode cX11_minute 27 = .ok (.aload_n 0, 1) := by decide +kernel
theorem dX11_minute_28 : decode cX11_minute 28 = .ok (.iload_n 1, 1) := by decide +kernel
theorem dX11_minute_29 : decode cX11_minute 29 = .ok (.invokevirtual 139, 3) := by decide +kernel
theorem dX11_minute_32 : decode cX11_minute 32 = .ok (.ireturn, 1) := by decide +kernel
theorem dX11_pass_0 : decode cX11_pass 0 = .ok (.iconst 0, 1) := by decide +kernel
theorem dX11_pass_1 : decode cX11_pass 1 = .ok (.istore_n 2, 1) := by decide +kernel
theorem dX11_pass_2 : decode cX11_pass 2 = .ok (.iconst 0, 1) := by decide +kernel
theorem dX11_pass_3 : decode cX11_pass 3 = .ok (.istore_n 3, 1) := by decide +kernel
theorem dX11_pass_4 : decode cX11_pass 4 = .ok (.iload_n 3, 1) := by decide +kernel
theorem dX11_pass_5 : decode cX11_pass 5 = .ok (.iload_n 1, 1) := by decide +kernel
theorem dX11_pass_6 : decode cX11_pass 6 = .ok (.if_icmp .ge 37, 3) := by decide +kernel
theorem dX11_pass_9 : decode cX11_pass 9 = .ok (.aload_n 0, 1) := by decide +kernel
theorem dX11_pass_10 : decode cX11_pass 10 = .ok (.getfield 76, 3) := by decide +kernel
theorem dX11_pass_13 : decode cX11_pass 13 = .ok (.invokevirtual 142, 3) := by decide +kernel
theorem dX11_pass_16 : decode cX11_pass 16 = .ok (.ifCond .eq 27, 3) := by decide +kernel
theorem dX11_pass_19 : decode cX11_pass 19 = .ok (.aload_n 0, 1) := by decide +kernel
theorem dX11_pass_20 : decode cX11_pass 20 = .ok (.invokevirtual 132, 3) := by decide +kernel
theorem dX11_pass_23 : decode cX11_pass 23 = .ok (.aload_n 0, 1) := by decide +kernel
theorem dX11_pass_24 : decode cX11_pass 24 = .ok (.getfield 76, 3) := by decide +kernel
theorem dX11_pass_27 : decode cX11_pass 27 = .ok (.invokevirtual 146, 3) := by decide +kernel
theorem dX11_pass_30 : decode cX11_pass 30 = .ok (.iconst (-1), 1) := by decide +kernel
theorem dX11_pass_31 : decode cX11_pass 31 = .ok (.if_icmp .eq 6, 3) := by decide +kernel
theorem dX11_pass_34 : decode cX11_pass 34 = .ok (.iinc 2 1, 3) := by decide +kernel
theorem dX11_pass_37 : decode cX11_pass 37 = .ok (.iinc 3 1, 3) := by decide +kernel
theorem dX11_pass_40 : decode cX11_pass 40 = .ok (.goto (-36), 3) := by decide +kernel
theorem dX11_pass_43 : decode cX11_pass 43 = .ok (.iload_n 2, 1) := by decide +kernel
theorem dX11_pass_44 : decode cX11_pass 44 = .ok (.ireturn, 1) := by decide +kernel
theorem dX11_played_0 : decode cX11_played 0 = .ok (.aload_n 0, 1) := by decide +kernel
theorem dX11_played_1 : decode cX11_played 1 = .ok (.iload_n 1, 1) := by decide +kernel
theorem dX11_played_2 : decode cX11_played 2 = .ok (.invokevirtual 122, 3) := by decide +kernel
theorem dX11_played_5 : decode cX11_played 5 = .ok (.ifCond .ne 6, 3) := by decide +kernel
theorem dX11_played_8 : decode cX11_played 8 = .ok (.bipush (-2), 2) := by decide +kernel
theorem dX11_played_10 : decode cX11_played 10 = .ok (.ireturn, 1) := by decide +kernel
theorem dX11_played_11 : decode cX11_played 11 = .ok (.aload_n 0, 1) := by decide +kernel
theorem dX11_played_12 : decode cX11_played 12 = .ok (.getfield 58, 3) := by decide +kernel
theorem dX11_played_15 : decode cX11_played 15 = .ok (.iload_n 1, 1) := by decide +kernel
theorem dX11_played_16 : decode cX11_played 16 = .ok (.aaload, 1) := by decide +kernel
theorem dX11_played_17 : decode cX11_played 17 = .ok (.astore_n 2, 1) := by decide +kernel
theorem dX11_played_18 : decode cX11_played 18 = .ok (.iconst 0, 1) := by decide +kernel
theorem dX11_played_19 : decode cX11_played 19 = .ok (.istore_n 3, 1) := by decide +kernel
theorem dX11_played_20 : decode cX11_played 20 = .ok (.iload_n 3, 1) := by decide +kernel
theorem dX11_played_21 : decode cX11_played 21 = .ok (.aload_n 2, 1) := by decide +kernel
theorem dX11_played_22 : decode cX11_played 22 = .ok (.getfield 149, 3) := by decide +kernel
theorem dX11_played_25 : decode cX11_played 25 = .ok (.if_icmp .ge 42, 3) := by decide +kernel
theorem dX11_played_28 : decode cX11_played 28 = .ok (.iload_n 3, 1) := by decide +kernel
theorem dX11_played_29 : decode cX11_played 29 = .ok (.bipush 24, 2) := by decide +kernel
theorem dX11_played_31 : decode cX11_played 31 = .ok (.if_icmp .ge 36, 3) := by decide +kernel
theorem dX11_played_34 : decode cX11_played 34 = .ok (.aload_n 0, 1) := by decide +kernel
theorem dX11_played_35 : decode cX11_played 35 = .ok (.aload_n 2, 1) := by decide +kernel
theorem dX11_played_36 : decode cX11_played 36 = .ok (.getfield 152, 3) := by decide +kernel
theorem dX11_played_39 : decode cX11_played 39 = .ok (.iload_n 3, 1) := by decide +kernel
theorem dX11_played_40 : decode cX11_played 40 = .ok (.iaload, 1) := by decide +kernel
theorem dX11_played_41 : decode cX11_played 41 = .ok (.aload_n 2, 1) := by decide +kernel
theorem dX11_played_42 : decode cX11_played 42 = .ok (.getfield 155, 3) := by decide +kernel
theorem dX11_played_45 : decode cX11_played 45 = .ok (.iload_n 3, 1) := by decide +kernel
theorem dX11_played_46 : decode cX11_played 46 = .ok (.iaload, 1) := by decide +kernel
theorem dX11_played_47 : decode cX11_played 47 = .ok (.aload_n 2, 1) := by decide +kernel
theorem dX11_played_48 : decode cX11_played 48 = .ok (.getfield 158, 3) := by decide +kernel
theorem dX11_played_51 : decode cX11_played 51 = .ok (.iload_n 3, 1) := by decide +kernel
theorem dX11_played_52 : decode cX11_played 52 = .ok (.iaload, 1) := by decide +kernel
theorem dX11_played_53 : decode cX11_played 53 = .ok (.invokevirtual 161, 3) := by decide +kernel
theorem dX11_played_56 : decode cX11_played 56 = .ok (.ifCond .ne 5, 3) := by decide +kernel
theorem dX11_played_59 : decode cX11_played 59 = .ok (.iload_n 3, 1) := by decide +kernel
theorem dX11_played_60 : decode cX11_played 60 = .ok (.ireturn, 1) := by decide +kernel
theorem dX11_played_61 : decode cX11_played 61 = .ok (.iinc 3 1, 3) := by decide +kernel
theorem dX11_played_64 : decode cX11_played 64 = .ok (.goto (-44), 3) := by decide +kernel
theorem dX11_played_67 : decode cX11_played 67 = .ok (.iconst (-1), 1) := by decide +kernel
theorem dX11_played_68 : decode cX11_played 68 = .ok (.ireturn, 1) := by decide +kernel
theorem dX11_act_0 : decode cX11_act 0 = .ok (.iload_n 1, 1) := by decide +kernel
theorem dX11_act_1 : decode cX11_act 1 = .ok (.tableswitch 143 2 9 #[47, 63, 70, 77, 84, 91, 98, 112], 47) := by decide +kernel
theorem dX11_act_48 : decode cX11_act 48 = .ok (.aload_n 0, 1) := by decide +kernel
theorem dX11_act_49 : decode cX11_act 49 = .ok (.iload_n 2, 1) := by decide +kernel
theorem dX11_act_50 : decode cX11_act 50 = .ok (.iconst 1, 1) := by decide +kernel
theorem dX11_act_51 : decode cX11_act 51 = .ok (.invokevirtual 164, 3) := by decide +kernel
theorem dX11_act_54 : decode cX11_act 54 = .ok (.iconst (-1), 1) := by decide +kernel
theorem dX11_act_55 : decode cX11_act 55 = .ok (.if_icmp .eq 7, 3) := by decide +kernel
theorem dX11_act_58 : decode cX11_act 58 = .ok (.iconst 1, 1) := by decide +kernel
theorem dX11_act_59 : decode cX11_act 59 = .ok (.goto 4, 3) := by decide +kernel
theorem dX11_act_62 : decode cX11_act 62 = .ok (.iconst 0, 1) := by decide +kernel
theorem dX11_act_63 : decode cX11_act 63 = .ok (.ireturn, 1) := by decide +kernel
theorem dX11_act_64 : decode cX11_act 64 = .ok (.aload_n 0, 1) := by decide +kernel
theorem dX11_act_65 : decode cX11_act 65 = .ok (.iload_n 3, 1) := by decide +kernel
theorem dX11_act_66 : decode cX11_act 66 = .ok (.iload_n 2, 1) := by decide +kernel
theorem dX11_act_67 : decode cX11_act 67 = .ok (.invokevirtual 168, 3) := by decide +kernel
theorem dX11_act_70 : decode cX11_act 70 = .ok (.ireturn, 1) := by decide +kernel
theorem dX11_act_71 : decode cX11_act 71 = .ok (.aload_n 0, 1) := by decide +kernel
theorem dX11_act_72 : decode cX11_act 72 = .ok (.iload_n 2, 1) := by decide +kernel
theorem dX11_act_73 : decode cX11_act 73 = .ok (.iconst 1, 1) := by decide +kernel
theorem dX11_act_74 : decode cX11_act 74 = .ok (.invokevirtual 171, 3) := by decide +kernel
theorem dX11_act_77 : decode cX11_act 77 = .ok (.ireturn, 1) := by decide +kernel
theorem dX11_act_78 : decode cX11_act 78 = .ok (.aload_n 0, 1) := by decide +kernel
theorem dX11_act_79 : decode cX11_act 79 = .ok (.iload_n 2, 1) := by decide +kernel
theorem dX11_act_80 : decode cX11_act 80 = .ok (.iload_n 3, 1) := by decide +kernel
theorem dX11_act_81 : decode cX11_act 81 = .ok (.invokevirtual 175, 3) := by decide +kernel
theorem dX11_act_84 : decode cX11_act 84 = .ok (.ireturn, 1) := by decide +kernel
theorem dX11_act_85 : decode cX11_act 85 = .ok (.aload_n 0, 1) := by decide +kernel
theorem dX11_act_86 : decode cX11_act 86 = .ok (.iload_n 2, 1) := by decide +kernel
theorem dX11_act_87 : decode cX11_act 87 = .ok (.iconst 0, 1) := by decide +kernel
theorem dX11_act_88 : decode cX11_act 88 = .ok (.invokevirtual 178, 3) := by decide +kernel
theorem dX11_act_91 : decode cX11_act 91 = .ok (.ireturn, 1) := by decide +kernel
theorem dX11_act_92 : decode cX11_act 92 = .ok (.aload_n 0, 1) := by decide +kernel
theorem dX11_act_93 : decode cX11_act 93 = .ok (.iload_n 2, 1) := by decide +kernel
theorem dX11_act_94 : decode cX11_act 94 = .ok (.iconst 1, 1) := by decide +kernel
theorem dX11_act_95 : decode cX11_act 95 = .ok (.invokevirtual 178, 3) := by decide +kernel
theorem dX11_act_98 : decode cX11_act 98 = .ok (.ireturn, 1) := by decide +kernel
theorem dX11_act_99 : decode cX11_act 99 = .ok (.aload_n 0, 1) := by decide +kernel
theorem dX11_act_100 : decode cX11_act 100 = .ok (.invokevirtual 181, 3) := by decide +kernel
theorem dX11_act_103 : decode cX11_act 103 = .ok (.iconst (-1), 1) := by decide +kernel
theorem dX11_act_104 : decode cX11_act 104 = .ok (.if_icmp .eq 7, 3) := by decide +kernel
theorem dX11_act_107 : decode cX11_act 107 = .ok (.iconst 1, 1) := by decide +kernel
theorem dX11_act_108 : decode cX11_act 108 = .ok (.goto 4, 3) := by decide +kernel
theorem dX11_act_111 : decode cX11_act 111 = .ok (.iconst 0, 1) := by decide +kernel
theorem dX11_act_112 : decode cX11_act 112 = .ok (.ireturn, 1) := by decide +kernel
theorem dX11_act_113 : decode cX11_act 113 = .ok (.aload_n 0, 1) := by decide +kernel
theorem dX11_act_114 : decode cX11_act 114 = .ok (.getfield 86, 3) := by decide +kernel
theorem dX11_act_117 : decode cX11_act 117 = .ok (.bipush 51, 2) := by decide +kernel
theorem dX11_act_119 : decode cX11_act 119 = .ok (.iaload, 1) := by decide +kernel
theorem dX11_act_120 : decode cX11_act 120 = .ok (.iload_n 2, 1) := by decide +kernel
theorem dX11_act_121 : decode cX11_act 121 = .ok (.iadd, 1) := by decide +kernel
theorem dX11_act_122 : decode cX11_act 122 = .ok (.sipush 9999, 3) := by decide +kernel
theorem dX11_act_125 : decode cX11_act 125 = .ok (.if_icmp .gt 7, 3) := by decide +kernel
theorem dX11_act_128 : decode cX11_act 128 = .ok (.iconst 1, 1) := by decide +kernel
theorem dX11_act_129 : decode cX11_act 129 = .ok (.goto 4, 3) := by decide +kernel
theorem dX11_act_132 : decode cX11_act 132 = .ok (.iconst 0, 1) := by decide +kernel
theorem dX11_act_133 : decode cX11_act 133 = .ok (.istore 4, 2) := by decide +kernel
theorem dX11_act_135 : decode cX11_act 135 = .ok (.aload_n 0, 1) := by decide +kernel
theorem dX11_act_136 : decode cX11_act 136 = .ok (.iload_n 2, 1) := by decide +kernel
theorem dX11_act_137 : decode cX11_act 137 = .ok (.invokevirtual 139, 3) := by decide +kernel
theorem dX11_act_140 : decode cX11_act 140 = .ok (.pop, 1) := by decide +kernel
theorem dX11_act_141 : decode cX11_act 141 = .ok (.iload 4, 2) := by decide +kernel
theorem dX11_act_143 : decode cX11_act 143 = .ok (.ireturn, 1) := by decide +kernel
theorem dX11_act_144 : decode cX11_act 144 = .ok (.iconst 1, 1) := by decide +kernel
theorem dX11_act_145 : decode cX11_act 145 = .ok (.ireturn, 1) := by decide +kernel
theorem dX11_years_0 : decode cX11_years 0 = .ok (.iload_n 1, 1) := by decide +kernel
theorem dX11_years_1 : decode cX11_years 1 = .ok (.iconst 0, 1) := by decide +kernel
theorem dX11_years_2 : decode cX11_years 2 = .ok (.sipush 9999, 3) := by decide +kernel
theorem dX11_years_5 : decode cX11_years 5 = .ok (.invokestatic 100, 3) := by decide +kernel
theorem dX11_years_8 : decode cX11_years 8 = .ok (.ifCond .eq 13, 3) := by decide +kernel
theorem dX11_years_11 : decode cX11_years 11 = .ok (.iload_n 2, 1) := by decide +kernel
theorem dX11_years_12 : decode cX11_years 12 = .ok (.iconst 1, 1) := by decide +kernel
theorem dX11_years_13 : decode cX11_years 13 = .ok (.bipush 40, 2) := by decide +kernel
theorem dX11_years_15 : decode cX11_years 15 = .ok (.invokestatic 100, 3) := by decide +kernel
theorem dX11_years_18 : decode cX11_years 18 = .ok (.ifCond .ne 5, 3) := by decide +kernel
theorem dX11_years_21 : decode cX11_years 21 = .ok (.iconst (-1), 1) := by decide +kernel
theorem dX11_years_22 : decode cX11_years 22 = .ok (.ireturn, 1) := by decide +kernel
theorem dX11_years_23 : decode cX11_years 23 = .ok (.aload_n 0, 1) := by decide +kernel
theorem dX11_years_24 : decode cX11_years 24 = .ok (.invokevirtual 132, 3) := by decide +kernel
theorem dX11_years_27 : decode cX11_years 27 = .ok (.aload_n 0, 1) := by decide +kernel
theorem dX11_years_28 : decode cX11_years 28 = .ok (.getfield 86, 3) := by decide +kernel
theorem dX11_years_31 : decode cX11_years 31 = .ok (.bipush 52, 2) := by decide +kernel
theorem dX11_years_33 : decode cX11_years 33 = .ok (.iload_n 1, 1) := by decide +kernel
theorem dX11_years_34 : decode cX11_years 34 = .ok (.iconst 2, 1) := by decide +kernel
theorem dX11_years_35 : decode cX11_years 35 = .ok (.imul, 1) := by decide +kernel
theorem dX11_years_36 : decode cX11_years 36 = .ok (.sipush 241, 3) := by decide +kernel
theorem dX11_years_39 : decode cX11_years 39 = .ok (.iadd, 1) := by decide +kernel
theorem dX11_years_40 : decode cX11_years 40 = .ok (.iastore, 1) := by decide +kernel
theorem dX11_years_41 : decode cX11_years 41 = .ok (.iconst 0, 1) := by decide +kernel
theorem dX11_years_42 : decode cX11_years 42 = .ok (.istore_n 3, 1) := by decide +kernel
theorem dX11_years_43 : decode cX11_years 43 = .ok (.iload_n 3, 1) := by decide +kernel
theorem dX11_years_44 : decode cX11_years 44 = .ok (.iload_n 2, 1) := by decide +kernel
theorem dX11_years_45 : decode cX11_years 45 = .ok (.if_icmp .ge 23, 3) := by decide +kernel
theorem dX11_years_48 : decode cX11_years 48 = .ok (.aload_n 0, 1) := by decide +kernel
theorem dX11_years_49 : decode cX11_years 49 = .ok (.getfield 76, 3) := by decide +kernel
theorem dX11_years_52 : decode cX11_years 52 = .ok (.aload_n 0, 1) := by decide +kernel
theorem dX11_years_53 : decode cX11_years 53 = .ok (.getfield 76, 3) := by decide +kernel
theorem dX11_years_56 : decode cX11_years 56 = .ok (.invokevirtual 135, 3) := by decide +kernel
theorem dX11_years_59 : decode cX11_years 59 = .ok (.invokevirtual 184, 3) := by decide +kernel
theorem dX11_years_62 : decode cX11_years 62 = .ok (.iinc 3 1, 3) := by decide +kernel
theorem dX11_years_65 : decode cX11_years 65 = .ok (.goto (-22), 3) := by decide +kernel
theorem dX11_years_68 : decode cX11_years 68 = .ok (.aload_n 0, 1) := by decide +kernel
theorem dX11_years_69 : decode cX11_years 69 = .ok (.getfield 86, 3) := by decide +kernel
theorem dX11_years_72 : decode cX11_years 72 = .ok (.bipush 51, 2) := by decide +kernel
theorem dX11_years_74 : decode cX11_years 74 = .ok (.iaload, 1) := by decide +kernel
theorem dX11_years_75 : decode cX11_years 75 = .ok (.ireturn, 1) := by decide +kernel
theorem dX11_undo_0 : decode cX11_undo 0 = .ok (.aload_n 0, 1) := by decide +kernel
theorem dX11_undo_1 : decode cX11_undo 1 = .ok (.getfield 86, 3) := by decide +kernel
theorem dX11_undo_4 : decode cX11_undo 4 = .ok (.sipush 183, 3) := by decide +kernel
theorem dX11_undo_7 : decode cX11_undo 7 = .ok (.iaload, 1) := by decide +kernel
theorem dX11_undo_8 : decode cX11_undo 8 = .ok (.iconst 1, 1) := by decide +kernel
theorem dX11_undo_9 : decode cX11_undo 9 = .ok (.isub, 1) := by decide +kernel
theorem dX11_undo_10 : decode cX11_undo 10 = .ok (.istore_n 1, 1) := by decide +kernel
theorem dX11_undo_11 : decode cX11_undo 11 = .ok (.iload_n 1, 1) := by decide +kernel
theorem dX11_undo_12 : decode cX11_undo 12 = .ok (.ifCond .ge 5, 3) := by decide +kernel
theorem dX11_undo_15 : decode cX11_undo 15 = .ok (.iconst (-1), 1) := by decide +kernel
theorem dX11_undo_16 : decode cX11_undo 16 = .ok (.ireturn, 1) := by decide +kernel
theorem dX11_undo_17 : decode cX11_undo 17 = .ok (.sipush 185, 3) := by decide +kernel
theorem dX11_undo_20 : decode cX11_undo 20 = .ok (.aload_n 0, 1) := by decide +kernel
theorem dX11_undo_21 : decode cX11_undo 21 = .ok (.getfield 86, 3) := by decide +kernel
theorem dX11_undo_24 : decode cX11_undo 24 = .ok (.sipush 184, 3) := by decide +kernel
theorem dX11_undo_27 : decode cX11_undo 27 = .ok (.iaload, 1) := by decide +kernel
theorem dX11_undo_28 : decode cX11_undo 28 = .ok (.iload_n 1, 1) := by decide +kernel
theorem dX11_undo_29 : decode cX11_undo 29 = .ok (.iadd, 1) := by decide +kernel
theorem dX11_undo_30 : decode cX11_undo 30 = .ok (.bipush 30, 2) := by decide +kernel
theorem dX11_undo_32 : decode cX11_undo 32 = .ok (.irem, 1) := by decide +kernel
theorem dX11_undo_33 : decode cX11_undo 33 = .ok (.bipush 85, 2) := by decide +kernel
theorem dX11_undo_35 : decode cX11_undo 35 = .ok (.imul, 1) := by decide +kernel
theorem dX11_undo_36 : decode cX11_undo 36 = .ok (.iadd, 1) := by decide +kernel
theorem dX11_undo_37 : decode cX11_undo 37 = .ok (.istore_n 2, 1) := by decide +kernel
theorem dX11_undo_38 : decode cX11_undo 38 = .ok (.aload_n 0, 1) := by decide +kernel
theorem dX11_undo_39 : decode cX11_undo 39 = .ok (.getfield 86, 3) := by decide +kernel
theorem dX11_undo_42 : decode cX11_undo 42 = .ok (.iload_n 2, 1) := by decide +kernel
theorem dX11_undo_43 : decode cX11_undo 43 = .ok (.bipush 84, 2) := by decide +kernel
theorem dX11_undo_45 : decode cX11_undo 45 = .ok (.iadd, 1) := by decide +kernel
theorem dX11_undo_46 : decode cX11_undo 46 = .ok (.iaload, 1) := by decide +kernel
theorem dX11_undo_47 : decode cX11_undo 47 = .ok (.istore_n 3, 1) := by decide +kernel
theorem dX11_undo_48 : decode cX11_undo 48 = .ok (.iload_n 3, 1) := by decide +kernel
theorem dX11_undo_49 : decode cX11_undo 49 = .ok (.aload_n 0, 1) := by decide +kernel
theorem dX11_undo_50 : decode cX11_undo 50 = .ok (.getfield 86, 3) := by decide +kernel
theorem dX11_undo_53 : decode cX11_undo 53 = .ok (.bipush 84, 2) := by decide +kernel
theorem dX11_undo_55 : decode cX11_undo 55 = .ok (.iaload, 1) := by decide +kernel
theorem dX11_undo_56 : decode cX11_undo 56 = .ok (.if_icmp .ge 85, 3) := by decide +kernel
theorem dX11_undo_59 : decode cX11_undo 59 = .ok (.aload_n 0, 1) := by decide +kernel
theorem dX11_undo_60 : decode cX11_undo 60 = .ok (.getfield 86, 3) := by decide +kernel
theorem dX11_undo_63 : decode cX11_undo 63 = .ok (.iload_n 2, 1) := by decide +kernel
theorem dX11_undo_64 : decode cX11_undo 64 = .ok (.iconst 0, 1) := by decide +kernel
theorem dX11_undo_65 : decode cX11_undo 65 = .ok (.iadd, 1) := by decide +kernel
theorem dX11_undo_66 : decode cX11_undo 66 = .ok (.iload_n 3, 1) := by decide +kernel
theorem dX11_undo_67 : decode cX11_undo 67 = .ok (.iadd, 1) := by decide +kernel
theorem dX11_undo_68 : decode cX11_undo 68 = .ok (.aload_n 0, 1) := by decide +kernel
theorem dX11_undo_69 : decode cX11_undo 69 = .ok (.getfield 86, 3) := by decide +kernel
theorem dX11_undo_72 : decode cX11_undo 72 = .ok (.iconst 0, 1) := by decide +kernel
theorem dX11_undo_73 : decode cX11_undo 73 = .ok (.iload_n 3, 1) := by decide +kernel
theorem dX11_undo_74 : decode cX11_undo 74 = .ok (.iadd, 1) := by decide +kernel
theorem dX11_undo_75 : decode cX11_undo 75 = .ok (.iaload, 1) := by decide +kernel
theorem dX11_undo_76 : decode cX11_undo 76 = .ok (.iastore, 1) := by decide +kernel
theorem dX11_undo_77 : decode cX11_undo 77 = .ok (.aload_n 0, 1) := by decide +kernel
theorem dX11_undo_78 : decode cX11_undo 78 = .ok (.getfield 86, 3) := by decide +kernel
theorem dX11_undo_81 : decode cX11_undo 81 = .ok (.iload_n 2, 1) := by decide +kernel
theorem dX11_undo_82 : decode cX11_undo 82 = .ok (.iconst 5, 1) := by decide +kernel
theorem dX11_undo_83 : decode cX11_undo 83 = .ok (.iadd, 1) := by decide +kernel
theorem dX11_undo_84 : decode cX11_undo 84 = .ok (.iload_n 3, 1) := by decide +kernel
theorem dX11_undo_85 : decode cX11_undo 85 = .ok (.iadd, 1) := by decide +kernel
theorem dX11_undo_86 : decode cX11_undo 86 = .ok (.aload_n 0, 1) := by decide +kernel
theorem dX11_undo_87 : decode cX11_undo 87 = .ok (.getfield 86, 3) := by decide +kernel
theorem dX11_undo_90 : decode cX11_undo 90 = .ok (.iconst 5, 1) := by decide +kernel
theorem dX11_undo_91 : decode cX11_undo 91 = .ok (.iload_n 3, 1) := by decide +kernel
theorem dX11_undo_92 : decode cX11_undo 92 = .ok (.iadd, 1) := by decide +kernel
theorem dX11_undo_93 : decode cX11_undo 93 = .ok (.iaload, 1) := by decide +kernel
theorem dX11_undo_94 : decode cX11_undo 94 = .ok (.iastore, 1) := by decide +kernel
theorem dX11_undo_95 : decode cX11_undo 95 = .ok (.aload_n 0, 1) := by decide +kernel
theorem dX11_undo_96 : decode cX11_undo 96 = .ok (.getfield 86, 3) := by decide +kernel
theorem dX11_undo_99 : decode cX11_undo 99 = .ok (.iload_n 2, 1) := by decide +kernel
theorem dX11_undo_100 : decode cX11_undo 100 = .ok (.bipush 10, 2) := by decide +kernel
theorem dX11_undo_102 : decode cX11_undo 102 = .ok (.iadd, 1) := by decide +kernel
theorem dX11_undo_103 : decode cX11_undo 103 = .ok (.iload_n 3, 1) := by decide +kernel
theorem dX11_undo_104 : decode cX11_undo 104 = .ok (.iadd, 1) := by decide +kernel
theorem dX11_undo_105 : decode cX11_undo 105 = .ok (.aload_n 0, 1) := by decide +kernel
theorem dX11_undo_106 : decode cX11_undo 106 = .ok (.getfield 86, 3) := by decide +kernel
theorem dX11_undo_109 : decode cX11_undo 109 = .ok (.bipush 10, 2) := by decide +kernel
theorem dX11_undo_111 : decode cX11_undo 111 = .ok (.iload_n 3, 1) := by decide +kernel
theorem dX11_undo_112 : decode cX11_undo 112 = .ok (.iadd, 1) := by decide +kernel
theorem dX11_undo_113 : decode cX11_undo 113 = .ok (.iaload, 1) := by decide +kernel
theorem dX11_undo_114 : decode cX11_undo 114 = .ok (.iastore, 1) := by decide +kernel
theorem dX11_undo_115 : decode cX11_undo 115 = .ok (.aload_n 0, 1) := by decide +kernel
theorem dX11_undo_116 : decode cX11_undo 116 = .ok (.getfield 86, 3) := by decide +kernel
theorem dX11_undo_119 : decode cX11_undo 119 = .ok (.iload_n 2, 1) := by decide +kernel
theorem dX11_undo_120 : decode cX11_undo 120 = .ok (.bipush 15, 2) := by decide +kernel
theorem dX11_undo_122 : decode cX11_undo 122 = .ok (.iadd, 1) := by decide +kernel
theorem dX11_undo_123 : decode cX11_undo 123 = .ok (.iload_n 3, 1) := by decide +kernel
theorem dX11_undo_124 : decode cX11_undo 124 = .ok (.iadd, 1) := by decide +kernel
theorem dX11_undo_125 : decode cX11_undo 125 = .ok (.aload_n 0, 1) := by decide +kernel
theorem dX11_undo_126 : decode cX11_undo 126 = .ok (.getfield 86, 3) := by decide +kernel
theorem dX11_undo_129 : decode cX11_undo 129 = .ok (.bipush 15, 2) := by decide +kernel
theorem dX11_undo_131 : decode cX11_undo 131 = .ok (.iload_n 3, 1) := by decide +kernel
theorem dX11_undo_132 : decode cX11_undo 132 = .ok (.iadd, 1) := by decide +kernel
theorem dX11_undo_133 : decode cX11_undo 133 = .ok (.iaload, 1) := by decide +kernel
theorem dX11_undo_134 : decode cX11_undo 134 = .ok (.iastore, 1) := by decide +kernel
theorem dX11_undo_135 : decode cX11_undo 135 = .ok (.iinc 3 1, 3) := by decide +kernel
theorem dX11_undo_138 : decode cX11_undo 138 = .ok (.goto (-90), 3) := by decide +kernel
theorem dX11_undo_141 : decode cX11_undo 141 = .ok (.aload_n 0, 1) := by decide +kernel
theorem dX11_undo_142 : decode cX11_undo 142 = .ok (.getfield 86, 3) := by decide +kernel
theorem dX11_undo_145 : decode cX11_undo 145 = .ok (.iload_n 2, 1) := by decide +kernel
theorem dX11_undo_146 : decode cX11_undo 146 = .ok (.bipush 84, 2) := by decide +kernel
theorem dX11_undo_148 : decode cX11_undo 148 = .ok (.iadd, 1) := by decide +kernel
theorem dX11_undo_149 : decode cX11_undo 149 = .ok (.aload_n 0, 1) := by decide +kernel
theorem dX11_undo_150 : decode cX11_undo 150 = .ok (.getfield 86, 3) := by decide +kernel
theorem dX11_undo_153 : decode cX11_undo 153 = .ok (.bipush 84, 2) := by decide +kernel
theorem dX11_undo_155 : decode cX11_undo 155 = .ok (.iaload, 1) := by decide +kernel
theorem dX11_undo_156 : decode cX11_undo 156 = .ok (.iastore, 1) := by decide +kernel
theorem dX11_undo_157 : decode cX11_undo 157 = .ok (.aload_n 0, 1) := by decide +kernel
theorem dX11_undo_158 : decode cX11_undo 158 = .ok (.getfield 86, 3) := by decide +kernel
theorem dX11_undo_161 : decode cX11_undo 161 = .ok (.iload_n 2, 1) := by decide +kernel
theorem dX11_undo_162 : decode cX11_undo 162 = .ok (.aload_n 0, 1) := by decide +kernel
theorem dX11_undo_163 : decode cX11_undo 163 = .ok (.getfield 86, 3) := by decide +kernel
theorem dX11_undo_166 : decode cX11_undo 166 = .ok (.iconst 0, 1) := by decide +kernel
theorem dX11_undo_167 : decode cX11_undo 167 = .ok (.bipush 85, 2) := by decide +kernel
theorem dX11_undo_169 : decode cX11_undo 169 = .ok (.invokestatic 87, 3) := by decide +kernel
theorem dX11_undo_172 : decode cX11_undo 172 = .ok (.aload_n 0, 1) := by decide +kernel
theorem dX11_undo_173 : decode cX11_undo 173 = .ok (.getfield 86, 3) := by decide +kernel
theorem dX11_undo_176 : decode cX11_undo 176 = .ok (.sipush 183, 3) := by decide +kernel
theorem dX11_undo_179 : decode cX11_undo 179 = .ok (.iload_n 1, 1) := by decide +kernel
theorem dX11_undo_180 : decode cX11_undo 180 = .ok (.iastore, 1) := by decide +kernel
theorem dX11_undo_181 : decode cX11_undo 181 = .ok (.iload_n 1, 1) := by decide +kernel
theorem dX11_undo_182 : decode cX11_undo 182 = .ok (.ireturn, 1) := by decide +kernel
theorem dX11_remember_0 : decode cX11_remember 0 = .ok (.aload_n 0, 1) := by decide +kernel
theorem dX11_remember_1 : decode cX11_remember 1 = .ok (.getfield 86, 3) := by decide +kernel
theorem dX11_remember_4 : decode cX11_remember 4 = .ok (.sipush 184, 3) := by decide +kernel
theorem dX11_remember_7 : decode cX11_remember 7 = .ok (.iaload, 1) := by decide +kernel
theorem dX11_remember_8 : decode cX11_remember 8 = .ok (.aload_n 0, 1) := by decide +kernel
theorem dX11_remember_9 : decode cX11_remember 9 = .ok (.getfield 86, 3) := by decide +kernel
theorem dX11_remember_12 : decode cX11_remember 12 = .ok (.sipush 183, 3) := by decide +kernel
theorem dX11_remember_15 : decode cX11_remember 15 = .ok (.iaload, 1) := by decide +kernel
theorem dX11_remember_16 : decode cX11_remember 16 = .ok (.iadd, 1) := by decide +kernel
theorem dX11_remember_17 : decode cX11_remember 17 = .ok (.bipush 30, 2) := by decide +kernel
theorem dX11_remember_19 : decode cX11_remember 19 = .ok (.irem, 1) := by decide +kernel
theorem dX11_remember_20 : decode cX11_remember 20 = .ok (.istore_n 1, 1) := by decide +kernel
theorem dX11_remember_21 : decode cX11_remember 21 = .ok (.aload_n 0, 1) := by decide +kernel
theorem dX11_remember_22 : decode cX11_remember 22 = .ok (.getfield 86, 3) := by decide +kernel
theorem dX11_remember_25 : decode cX11_remember 25 = .ok (.iconst 0, 1) := by decide +kernel
theorem dX11_remember_26 : decode cX11_remember 26 = .ok (.aload_n 0, 1) := by decide +kernel
theorem dX11_remember_27 : decode cX11_remember 27 = .ok (.getfield 86, 3) := by decide +kernel
theorem dX11_remember_30 : decode cX11_remember 30 = .ok (.sipush 185, 3) := by decide +kernel
theorem dX11_remember_33 : decode cX11_remember 33 = .ok (.iload_n 1, 1) := by decide +kernel
theorem dX11_remember_34 : decode cX11_remember 34 = .ok (.bipush 85, 2) := by decide +kernel
theorem dX11_remember_36 : decode cX11_remember 36 = .ok (.imul, 1) := by decide +kernel
theorem dX11_remember_37 : decode cX11_remember 37 = .ok (.iadd, 1) := by decide +kernel
theorem dX11_remember_38 : decode cX11_remember 38 = .ok (.bipush 85, 2) := by decide +kernel
theorem dX11_remember_40 : decode cX11_remember 40 = .ok (.invokestatic 87, 3) := by decide +kernel
theorem dX11_remember_43 : decode cX11_remember 43 = .ok (.aload_n 0, 1) := by decide +kernel
theorem dX11_remember_44 : decode cX11_remember 44 = .ok (.getfield 86, 3) := by decide +kernel
theorem dX11_remember_47 : decode cX11_remember 47 = .ok (.sipush 183, 3) := by decide +kernel
theorem dX11_remember_50 : decode cX11_remember 50 = .ok (.iaload, 1) := by decide +kernel
theorem dX11_remember_51 : decode cX11_remember 51 = .ok (.bipush 30, 2) := by decide +kernel
theorem dX11_remember_53 : decode cX11_remember 53 = .ok (.if_icmp .ge 18, 3) := by decide +kernel
theorem dX11_remember_56 : decode cX11_remember 56 = .ok (.aload_n 0, 1) := by decide +kernel
theorem dX11_remember_57 : decode cX11_remember 57 = .ok (.getfield 86, 3) := by decide +kernel
theorem dX11_remember_60 : decode cX11_remember 60 = .ok (.sipush 183, 3) := by decide +kernel
theorem dX11_remember_63 : decode cX11_remember 63 = .ok (.dup2, 1) := by decide +kernel
theorem dX11_remember_64 : decode cX11_remember 64 = .ok (.iaload, 1) := by decide +kernel
theorem dX11_remember_65 : decode cX11_remember 65 = .ok (.iconst 1, 1) := by decide +kernel
theorem dX11_remember_66 : decode cX11_remember 66 = .ok (.iadd, 1) := by decide +kernel
theorem dX11_remember_67 : decode cX11_remember 67 = .ok (.iastore, 1) := by decide +kernel
theorem dX11_remember_68 : decode cX11_remember 68 = .ok (.goto 24, 3) := by decide +kernel
theorem dX11_remember_71 : decode cX11_remember 71 = .ok (.aload_n 0, 1) := by decide +kernel
theorem dX11_remember_72 : decode cX11_remember 72 = .ok (.getfield 86, 3) := by decide +kernel
theorem dX11_remember_75 : decode cX11_remember 75 = .ok (.sipush 184, 3) := by decide +kernel
theorem dX11_remember_78 : decode cX11_remember 78 = .ok (.aload_n 0, 1) := by decide +kernel
theorem dX11_remember_79 : decode cX11_remember 79 = .ok (.getfield 86, 3) := by decide +kernel
theorem dX11_remember_82 : decode cX11_remember 82 = .ok (.sipush 184, 3) := by decide +kernel
theorem dX11_remember_85 : decode cX11_remember 85 = .ok (.iaload, 1) := by decide +kernel
theorem dX11_remember_86 : decode cX11_remember 86 = .ok (.iconst 1, 1) := by decide +kernel
theorem dX11_remember_87 : decode cX11_remember 87 = .ok (.iadd, 1) := by decide +kernel
theorem dX11_remember_88 : decode cX11_remember 88 = .ok (.bipush 30, 2) := by decide +kernel
theorem dX11_remember_90 : decode cX11_remember 90 = .ok (.irem, 1) := by decide +kernel
theorem dX11_remember_91 : decode cX11_remember 91 = .ok (.iastore, 1) := by decide +kernel
theorem dX11_remember_92 : decode cX11_remember 92 = .ok (.return_, 1) := by decide +kernel
theorem dX11_of_0 : decode cX11_of 0 = .ok (.aload_n 0, 1) := by decide +kernel
theorem dX11_of_1 : decode cX11_of 1 = .ok (.iload_n 1, 1) := by decide +kernel
theorem dX11_of_2 : decode cX11_of 2 = .ok (.invokevirtual 125, 3) := by decide +kernel
theorem dX11_of_5 : decode cX11_of 5 = .ok (.ifCond .ne 5, 3) := by decide +kernel
theorem dX11_of_8 : decode cX11_of 8 = .ok (.iconst (-1), 1) := by decide +kernel
theorem dX11_of_9 : decode cX11_of 9 = .ok (.ireturn, 1) := by decide +kernel
theorem dX11_of_10 : decode cX11_of 10 = .ok (.iload_n 2, 1) := by decide +kernel
theorem dX11_of_11 : decode cX11_of 11 = .ok (.tableswitch 108 0 5 #[37, 46, 55, 65, 75, 99], 37) := by decide +kernel
theorem dX11_of_48 : decode cX11_of 48 = .ok (.aload_n 0, 1) := by decide +kernel
theorem dX11_of_49 : decode cX11_of 49 = .ok (.getfield 86, 3) := by decide +kernel
theorem dX11_of_52 : decode cX11_of 52 = .ok (.iconst 0, 1) := by decide +kernel
theorem dX11_of_53 : decode cX11_of 53 = .ok (.iload_n 1, 1) := by decide +kernel
theorem dX11_of_54 : decode cX11_of 54 = .ok (.iadd, 1) := by decide +kernel
theorem dX11_of_55 : decode cX11_of 55 = .ok (.iaload, 1) := by decide +kernel
theorem dX11_of_56 : decode cX11_of 56 = .ok (.ireturn, 1) := by decide +kernel
theorem dX11_of_57 : decode cX11_of 57 = .ok (.aload_n 0, 1) := by decide +kernel
theorem dX11_of_58 : decode cX11_of 58 = .ok (.getfield 86, 3) := by decide +kernel
theorem dX11_of_61 : decode cX11_of 61 = .ok (.iconst 5, 1) := by decide +kernel
theorem dX11_of_62 : decode cX11_of 62 = .ok (.iload_n 1, 1) := by decide +kernel
theorem dX11_of_63 : decode cX11_of 63 = .ok (.iadd, 1) := by decide +kernel
theorem dX11_of_64 : decode cX11_of 64 = .ok (.iaload, 1) := by decide +kernel
theorem dX11_of_65 : decode cX11_of 65 = .ok (.ireturn, 1) := by decide +kernel
theorem dX11_of_66 : decode cX11_of 66 = .ok (.aload_n 0, 1) := by decide +kernel
theorem dX11_of_67 : decode cX11_of 67 = .ok (.getfield 86, 3) := by decide +kernel
theorem dX11_of_70 : decode cX11_of 70 = .ok (.bipush 10, 2) := by decide +kernel
theorem dX11_of_72 : decode cX11_of 72 = .ok (.iload_n 1, 1) := by decide +kernel
theorem dX11_of_73 : decode cX11_of 73 = .ok (.iadd, 1) := by decide +kernel
theorem dX11_of_74 : decode cX11_of 74 = .ok (.iaload, 1) := by decide +kernel
theorem dX11_of_75 : decode cX11_of 75 = .ok (.ireturn, 1) := by decide +kernel
theorem dX11_of_76 : decode cX11_of 76 = .ok (.aload_n 0, 1) := by decide +kernel
theorem dX11_of_77 : decode cX11_of 77 = .ok (.getfield 86, 3) := by decide +kernel
theorem dX11_of_80 : decode cX11_of 80 = .ok (.bipush 15, 2) := by decide +kernel
theorem dX11_of_82 : decode cX11_of 82 = .ok (.iload_n 1, 1) := by decide +kernel
theorem dX11_of_83 : decode cX11_of 83 = .ok (.iadd, 1) := by decide +kernel
theorem dX11_of_84 : decode cX11_of 84 = .ok (.iaload, 1) := by decide +kernel
theorem dX11_of_85 : decode cX11_of 85 = .ok (.ireturn, 1) := by decide +kernel
theorem dX11_of_86 : decode cX11_of 86 = .ok (.aload_n 0, 1) := by decide +kernel
theorem dX11_of_87 : decode cX11_of 87 = .ok (.getfield 76, 3) := by decide +kernel
theorem dX11_of_90 : decode cX11_of 90 = .ok (.aload_n 0, 1) := by decide +kernel
theorem dX11_of_91 : decode cX11_of 91 = .ok (.getfield 86, 3) := by decide +kernel
theorem dX11_of_94 : decode cX11_of 94 = .ok (.bipush 116, 2) := by decide +kernel
theorem dX11_of_96 : decode cX11_of 96 = .ok (.iaload, 1) := by decide +kernel
theorem dX11_of_97 : decode cX11_of 97 = .ok (.iload_n 1, 1) := by decide +kernel
theorem dX11_of_98 : decode cX11_of 98 = .ok (.aload_n 0, 1) := by decide +kernel
theorem dX11_of_99 : decode cX11_of 99 = .ok (.getfield 76, 3) := by decide +kernel
theorem dX11_of_102 : decode cX11_of 102 = .ok (.iload_n 1, 1) := by decide +kernel
theorem dX11_of_103 : decode cX11_of 103 = .ok (.invokevirtual 187, 3) := by decide +kernel
theorem dX11_of_106 : decode cX11_of 106 = .ok (.invokevirtual 190, 3) := by decide +kernel
theorem dX11_of_109 : decode cX11_of 109 = .ok (.ireturn, 1) := by decide +kernel
theorem dX11_of_110 : decode cX11_of 110 = .ok (.aload_n 0, 1) := by decide +kernel
theorem dX11_of_111 : decode cX11_of 111 = .ok (.getfield 76, 3) := by decide +kernel
theorem dX11_of_114 : decode cX11_of 114 = .ok (.iload_n 1, 1) := by decide +kernel
theorem dX11_of_115 : decode cX11_of 115 = .ok (.invokevirtual 194, 3) := by decide +kernel
theorem dX11_of_118 : decode cX11_of 118 = .ok (.ireturn, 1) := by decide +kernel
theorem dX11_of_119 : decode cX11_of 119 = .ok (.iconst (-1), 1) := by decide +kernel
theorem dX11_of_120 : decode cX11_of 120 = .ok (.ireturn, 1) := by decide +kernel
theorem dX11_ofCell_0 : decode cX11_ofCell 0 = .ok (.iload_n 1, 1) := by decide +kernel
theorem dX11_ofCell_1 : decode cX11_ofCell 1 = .ok (.invokestatic 97, 3) := by decide +kernel
theorem dX11_ofCell_4 : decode cX11_ofCell 4 = .ok (.ifCond .ne 5, 3) := by decide +kernel
theorem dX11_ofCell_7 : decode cX11_ofCell 7 = .ok (.iconst (-1), 1) := by decide +kernel
theorem dX11_ofCell_8 : decode cX11_ofCell 8 = .ok (.ireturn, 1) := by decide +kernel
theorem dX11_ofCell_9 : decode cX11_ofCell 9 = .ok (.iload_n 2, 1) := by decide +kernel
theorem dX11_ofCell_10 : decode cX11_ofCell 10 = .ok (.tableswitch 76 0 3 #[30, 40, 50, 67], 30) := by decide +kernel
theorem dX11_ofCell_40 : decode cX11_ofCell 40 = .ok (.aload_n 0, 1) := by decide +kernel
theorem dX11_ofCell_41 : decode cX11_ofCell 41 = .ok (.getfield 86, 3) := by decide +kernel
theorem dX11_ofCell_44 : decode cX11_ofCell 44 = .ok (.bipush 86, 2) := by decide +kernel
theorem dX11_ofCell_46 : decode cX11_ofCell 46 = .ok (.iload_n 1, 1) := by decide +kernel
theorem dX11_ofCell_47 : decode cX11_ofCell 47 = .ok (.iadd, 1) := by decide +kernel
theorem dX11_ofCell_48 : decode cX11_ofCell 48 = .ok (.iaload, 1) := by decide +kernel
theorem dX11_ofCell_49 : decode cX11_ofCell 49 = .ok (.ireturn, 1) := by decide +kernel
theorem dX11_ofCell_50 : decode cX11_ofCell 50 = .ok (.aload_n 0, 1) := by decide +kernel
theorem dX11_ofCell_51 : decode cX11_ofCell 51 = .ok (.getfield 86, 3) := by decide +kernel
theorem dX11_ofCell_54 : decode cX11_ofCell 54 = .ok (.bipush 20, 2) := by decide +kernel
theorem dX11_ofCell_56 : decode cX11_ofCell 56 = .ok (.iload_n 1, 1) := by decide +kernel
theorem dX11_ofCell_57 : decode cX11_ofCell 57 = .ok (.iadd, 1) := by decide +kernel
theorem dX11_ofCell_58 : decode cX11_ofCell 58 = .ok (.iaload, 1) := by decide +kernel
theorem dX11_ofCell_59 : decode cX11_ofCell 59 = .ok (.ireturn, 1) := by decide +kernel
theorem dX11_ofCell_60 : decode cX11_ofCell 60 = .ok (.aload_n 0, 1) := by decide +kernel
theorem dX11_ofCell_61 : decode cX11_ofCell 61 = .ok (.getfield 76, 3) := by decide +kernel
theorem dX11_ofCell_64 : decode cX11_ofCell 64 = .ok (.iload_n 1, 1) := by decide +kernel
theorem dX11_ofCell_65 : decode cX11_ofCell 65 = .ok (.invokevirtual 93, 3) := by decide +kernel
theorem dX11_ofCell_68 : decode cX11_ofCell 68 = .ok (.ifCond .eq 7, 3) := by decide +kernel
theorem dX11_ofCell_71 : decode cX11_ofCell 71 = .ok (.iconst 0, 1) := by decide +kernel
theorem dX11_ofCell_72 : decode cX11_ofCell 72 = .ok (.goto 4, 3) := by decide +kernel
theorem dX11_ofCell_75 : decode cX11_ofCell 75 = .ok (.iconst 1, 1) := by decide +kernel
theorem dX11_ofCell_76 : decode cX11_ofCell 76 = .ok (.ireturn, 1) := by decide +kernel
theorem dX11_ofCell_77 : decode cX11_ofCell 77 = .ok (.aload_n 0, 1) := by decide +kernel
theorem dX11_ofCell_78 : decode cX11_ofCell 78 = .ok (.getfield 76, 3) := by decide +kernel
theorem dX11_ofCell_81 : decode cX11_ofCell 81 = .ok (.iload_n 1, 1) := by decide +kernel
theorem dX11_ofCell_82 : decode cX11_ofCell 82 = .ok (.invokevirtual 104, 3) := by decide +kernel
theorem dX11_ofCell_85 : decode cX11_ofCell 85 = .ok (.ireturn, 1) := by decide +kernel
theorem dX11_ofCell_86 : decode cX11_ofCell 86 = .ok (.iconst (-1), 1) := by decide +kernel
theorem dX11_ofCell_87 : decode cX11_ofCell 87 = .ok (.ireturn, 1) := by decide +kernel
theorem dX11_is_0 : decode cX11_is 0 = .ok (.iload_n 1, 1) := by decide +kernel
theorem dX11_is_1 : decode cX11_is 1 = .ok (.tableswitch 63 0 3 #[31, 39, 47, 55], 31) := by decide +kernel
theorem dX11_is_32 : decode cX11_is 32 = .ok (.aload_n 0, 1) := by decide +kernel
theorem dX11_is_33 : decode cX11_is 33 = .ok (.getfield 86, 3) := by decide +kernel
theorem dX11_is_36 : decode cX11_is 36 = .ok (.bipush 51, 2) := by decide +kernel
theorem dX11_is_38 : decode cX11_is 38 = .ok (.iaload, 1) := by decide +kernel
theorem dX11_is_39 : decode cX11_is 39 = .ok (.ireturn, 1) := by decide +kernel
theorem dX11_is_40 : decode cX11_is 40 = .ok (.aload_n 0, 1) := by decide +kernel
theorem dX11_is_41 : decode cX11_is 41 = .ok (.getfield 86, 3) := by decide +kernel
theorem dX11_is_44 : decode cX11_is 44 = .ok (.bipush 50, 2) := by decide +kernel
theorem dX11_is_46 : decode cX11_is 46 = .ok (.iaload, 1) := by decide +kernel
theorem dX11_is_47 : decode cX11_is 47 = .ok (.ireturn, 1) := by decide +kernel
theorem dX11_is_48 : decode cX11_is 48 = .ok (.aload_n 0, 1) := by decide +kernel
theorem dX11_is_49 : decode cX11_is 49 = .ok (.getfield 86, 3) := by decide +kernel
theorem dX11_is_52 : decode cX11_is 52 = .ok (.bipush 52, 2) := by decide +kernel
theorem dX11_is_54 : decode cX11_is 54 = .ok (.iaload, 1) := by decide +kernel
theorem dX11_is_55 : decode cX11_is 55 = .ok (.ireturn, 1) := by decide +kernel
theorem dX11_is_56 : decode cX11_is 56 = .ok (.aload_n 0, 1) := by decide +kernel
theorem dX11_is_57 : decode cX11_is 57 = .ok (.getfield 76, 3) := by decide +kernel
theorem dX11_is_60 : decode cX11_is 60 = .ok (.invokevirtual 197, 3) := by decide +kernel
theorem dX11_is_63 : decode cX11_is 63 = .ok (.ireturn, 1) := by decide +kernel
theorem dX11_is_64 : decode cX11_is 64 = .ok (.bipush (-2), 2) := by decide +kernel
theorem dX11_is_66 : decode cX11_is 66 = .ok (.ireturn, 1) := by decide +kernel
theorem dX11_book_0 : decode cX11_book 0 = .ok (.iload_n 1, 1) := by decide +kernel
theorem dX11_book_1 : decode cX11_book 1 = .ok (.iconst (-1), 1) := by decide +kernel
theorem dX11_book_2 : decode cX11_book 2 = .ok (.if_icmp .ne 11, 3) := by decide +kernel
theorem dX11_book_5 : decode cX11_book 5 = .ok (.aload_n 0, 1) := by decide +kernel
theorem dX11_book_6 : decode cX11_book 6 = .ok (.getfield 86, 3) := by decide +kernel
theorem dX11_book_9 : decode cX11_book 9 = .ok (.bipush 53, 2) := by decide +kernel
theorem dX11_book_11 : decode cX11_book 11 = .ok (.iaload, 1) := by decide +kernel
theorem dX11_book_12 : decode cX11_book 12 = .ok (.ireturn, 1) := by decide +kernel
theorem dX11_book_13 : decode cX11_book 13 = .ok (.iload_n 1, 1) := by decide +kernel
theorem dX11_book_14 : decode cX11_book 14 = .ok (.iconst 0, 1) := by decide +kernel
theorem dX11_book_15 : decode cX11_book 15 = .ok (.aload_n 0, 1) := by decide +kernel
theorem dX11_book_16 : decode cX11_book 16 = .ok (.getfield 86, 3) := by decide +kernel
theorem dX11_book_19 : decode cX11_book 19 = .ok (.bipush 53, 2) := by decide +kernel
theorem dX11_book_21 : decode cX11_book 21 = .ok (.iaload, 1) := by decide +kernel
theorem dX11_book_22 : decode cX11_book 22 = .ok (.iconst 1, 1) := by decide +kernel
theorem dX11_book_23 : decode cX11_book 23 = .ok (.isub, 1) := by decide +kernel
theorem dX11_book_24 : decode cX11_book 24 = .ok (.invokestatic 100, 3) := by decide +kernel
theorem dX11_book_27 : decode cX11_book 27 = .ok (.ifCond .ne 6, 3) := by decide +kernel
theorem dX11_book_30 : decode cX11_book 30 = .ok (.bipush (-2), 2) := by decide +kernel
theorem dX11_book_32 : decode cX11_book 32 = .ok (.ireturn, 1) := by decide +kernel
theorem dX11_book_33 : decode cX11_book 33 = .ok (.aload_n 0, 1) := by decide +kernel
theorem dX11_book_34 : decode cX11_book 34 = .ok (.getfield 86, 3) := by decide +kernel
theorem dX11_book_37 : decode cX11_book 37 = .ok (.bipush 54, 2) := by decide +kernel
theorem dX11_book_39 : decode cX11_book 39 = .ok (.iload_n 1, 1) := by decide +kernel
theorem dX11_book_40 : decode cX11_book 40 = .ok (.iadd, 1) := by decide +kernel
theorem dX11_book_41 : decode cX11_book 41 = .ok (.iaload, 1) := by decide +kernel
theorem dX11_book_42 : decode cX11_book 42 = .ok (.istore_n 3, 1) := by decide +kernel
theorem dX11_book_43 : decode cX11_book 43 = .ok (.iload_n 2, 1) := by decide +kernel
theorem dX11_book_44 : decode cX11_book 44 = .ok (.tableswitch 52 0 3 #[32, 37, 42, 47], 32) := by decide +kernel
theorem dX11_book_76 : decode cX11_book 76 = .ok (.iload_n 3, 1) := by decide +kernel
theorem dX11_book_77 : decode cX11_book 77 = .ok (.invokestatic 200, 3) := by decide +kernel
theorem dX11_book_80 : decode cX11_book 80 = .ok (.ireturn, 1) := by decide +kernel
theorem dX11_book_81 : decode cX11_book 81 = .ok (.iload_n 3, 1) := by decide +kernel
theorem dX11_book_82 : decode cX11_book 82 = .ok (.invokestatic 205, 3) := by decide +kernel
theorem dX11_book_85 : decode cX11_book 85 = .ok (.ireturn, 1) := by decide +kernel
theorem dX11_book_86 : decode cX11_book 86 = .ok (.iload_n 3, 1) := by decide +kernel
theorem dX11_book_87 : decode cX11_book 87 = .ok (.invokestatic 208, 3) := by decide +kernel
theorem dX11_book_90 : decode cX11_book 90 = .ok (.ireturn, 1) := by decide +kernel
theorem dX11_book_91 : decode cX11_book 91 = .ok (.iload_n 3, 1) := by decide +kernel
theorem dX11_book_92 : decode cX11_book 92 = .ok (.invokestatic 211, 3) := by decide +kernel
theorem dX11_book_95 : decode cX11_book 95 = .ok (.ireturn, 1) := by decide +kernel
theorem dX11_book_96 : decode cX11_book 96 = .ok (.bipush (-2), 2) := by decide +kernel
theorem dX11_book_98 : decode cX11_book 98 = .ok (.ireturn, 1) := by decide +kernel
theorem dX11_foretold_0 : decode cX11_foretold 0 = .ok (.iload_n 2, 1) := by decide +kernel
theorem dX11_foretold_1 : decode cX11_foretold 1 = .ok (.ifCond .eq 28, 3) := by decide +kernel
theorem dX11_foretold_4 : decode cX11_foretold 4 = .ok (.iload_n 2, 1) := by decide +kernel
theorem dX11_foretold_5 : decode cX11_foretold 5 = .ok (.iconst 1, 1) := by decide +kernel
theorem dX11_foretold_6 : decode cX11_foretold 6 = .ok (.if_icmp .ne 11, 3) := by decide +kernel
theorem dX11_foretold_9 : decode cX11_foretold 9 = .ok (.aload_n 0, 1) := by decide +kernel
theorem dX11_foretold_10 : decode cX11_foretold 10 = .ok (.iload_n 3, 1) := by decide +kernel
theorem dX11_foretold_11 : decode cX11_foretold 11 = .ok (.invokevirtual 125, 3) := by decide +kernel
theorem dX11_foretold_14 : decode cX11_foretold 14 = .ok (.ifCond .ne 15, 3) := by decide +kernel
theorem dX11_foretold_17 : decode cX11_foretold 17 = .ok (.iload_n 2, 1) := by decide +kernel
theorem dX11_foretold_18 : decode cX11_foretold 18 = .ok (.iconst 2, 1) := by decide +kernel
theorem dX11_foretold_19 : decode cX11_foretold 19 = .ok (.if_icmp .ne 14, 3) := by decide +kernel
theorem dX11_foretold_22 : decode cX11_foretold 22 = .ok (.iload_n 3, 1) := by decide +kernel
theorem dX11_foretold_23 : decode cX11_foretold 23 = .ok (.invokestatic 97, 3) := by decide +kernel
theorem dX11_foretold_26 : decode cX11_foretold 26 = .ok (.ifCond .eq 7, 3) := by decide +kernel
theorem dX11_foretold_29 : decode cX11_foretold 29 = .ok (.iconst 1, 1) := by decide +kernel
theorem dX11_foretold_30 : decode cX11_foretold 30 = .ok (.goto 4, 3) := by decide +kernel
theorem dX11_foretold_33 : decode cX11_foretold 33 = .ok (.iconst 0, 1) := by decide +kernel
theorem dX11_foretold_34 : decode cX11_foretold 34 = .ok (.istore 4, 2) := by decide +kernel
