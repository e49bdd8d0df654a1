theorem dX12_anew_28 : decode cX12_anew 28 = .ok (.return_, 1) := by decide +kernel
theorem dX12_rain_0 : decode cX12_rain 0 = .ok (.aload_n 0, 1) := by decide +kernel
theorem dX12_rain_1 : decode cX12_rain 1 = .ok (.iload_n 1, 1) := by decide +kernel
theorem dX12_rain_2 : decode cX12_rain 2 = .ok (.iconst 0, 1) := by decide +kernel
theorem dX12_rain_3 : decode cX12_rain 3 = .ok (.invokevirtual 105, 3) := by decide +kernel
theorem dX12_rain_6 : decode cX12_rain 6 = .ok (.istore_n 2, 1) := by decide +kernel
theorem dX12_rain_7 : decode cX12_rain 7 = .ok (.aload_n 0, 1) := by decide +kernel
theorem dX12_rain_8 : decode cX12_rain 8 = .ok (.iload_n 1, 1) := by decide +kernel
theorem dX12_rain_9 : decode cX12_rain 9 = .ok (.invokevirtual 352, 3) := by decide +kernel
theorem dX12_rain_12 : decode cX12_rain 12 = .ok (.i2l, 1) := by decide +kernel
theorem dX12_rain_13 : decode cX12_rain 13 = .ok (.iconst 0, 1) := by decide +kernel
theorem dX12_rain_14 : decode cX12_rain 14 = .ok (.bipush 99, 2) := by decide +kernel
theorem dX12_rain_16 : decode cX12_rain 16 = .ok (.aload_n 0, 1) := by decide +kernel
theorem dX12_rain_17 : decode cX12_rain 17 = .ok (.getfield 7, 3) := by decide +kernel
theorem dX12_rain_20 : decode cX12_rain 20 = .ok (.bipush 40, 2) := by decide +kernel
theorem dX12_rain_22 : decode cX12_rain 22 = .ok (.iload_n 2, 1) := by decide +kernel
theorem dX12_rain_23 : decode cX12_rain 23 = .ok (.iadd, 1) := by decide +kernel
theorem dX12_rain_24 : decode cX12_rain 24 = .ok (.iaload, 1) := by decide +kernel
theorem dX12_rain_25 : decode cX12_rain 25 = .ok (.isub, 1) := by decide +kernel
theorem dX12_rain_26 : decode cX12_rain 26 = .ok (.invokestatic 317, 3) := by decide +kernel
theorem dX12_rain_29 : decode cX12_rain 29 = .ok (.istore_n 3, 1) := by decide +kernel
theorem dX12_rain_30 : decode cX12_rain 30 = .ok (.aload_n 0, 1) := by decide +kernel
theorem dX12_rain_31 : decode cX12_rain 31 = .ok (.getfield 7, 3) := by decide +kernel
theorem dX12_rain_34 : decode cX12_rain 34 = .ok (.bipush 40, 2) := by decide +kernel
theorem dX12_rain_36 : decode cX12_rain 36 = .ok (.iload_n 2, 1) := by decide +kernel
theorem dX12_rain_37 : decode cX12_rain 37 = .ok (.iadd, 1) := by decide +kernel
theorem dX12_rain_38 : decode cX12_rain 38 = .ok (.dup2, 1) := by decide +kernel
theorem dX12_rain_39 : decode cX12_rain 39 = .ok (.iaload, 1) := by decide +kernel
theorem dX12_rain_40 : decode cX12_rain 40 = .ok (.iload_n 3, 1) := by decide +kernel
theorem dX12_rain_41 : decode cX12_rain 41 = .ok (.iadd, 1) := by decide +kernel
theorem dX12_rain_42 : decode cX12_rain 42 = .ok (.iastore, 1) := by decide +kernel
theorem dX12_rain_43 : decode cX12_rain 43 = .ok (.aload_n 0, 1) := by decide +kernel
theorem dX12_rain_44 : decode cX12_rain 44 = .ok (.iload_n 1, 1) := by decide +kernel
theorem dX12_rain_45 : decode cX12_rain 45 = .ok (.iconst 2, 1) := by decide +kernel
theorem dX12_rain_46 : decode cX12_rain 46 = .ok (.aload_n 0, 1) := by decide +kernel
theorem dX12_rain_47 : decode cX12_rain 47 = .ok (.iload_n 1, 1) := by decide +kernel
theorem dX12_rain_48 : decode cX12_rain 48 = .ok (.iconst 2, 1) := by decide +kernel
theorem dX12_rain_49 : decode cX12_rain 49 = .ok (.invokevirtual 105, 3) := by decide +kernel
theorem dX12_rain_52 : decode cX12_rain 52 = .ok (.iconst 3, 1) := by decide +kernel
theorem dX12_rain_53 : decode cX12_rain 53 = .ok (.iadd, 1) := by decide +kernel
theorem dX12_rain_54 : decode cX12_rain 54 = .ok (.i2l, 1) := by decide +kernel
theorem dX12_rain_55 : decode cX12_rain 55 = .ok (.iconst 0, 1) := by decide +kernel
theorem dX12_rain_56 : decode cX12_rain 56 = .ok (.bipush 99, 2) := by decide +kernel
theorem dX12_rain_58 : decode cX12_rain 58 = .ok (.invokestatic 317, 3) := by decide +kernel
theorem dX12_rain_61 : decode cX12_rain 61 = .ok (.invokevirtual 108, 3) := by decide +kernel
theorem dX12_rain_64 : decode cX12_rain 64 = .ok (.aload_n 0, 1) := by decide +kernel
theorem dX12_rain_65 : decode cX12_rain 65 = .ok (.iload_n 1, 1) := by decide +kernel
theorem dX12_rain_66 : decode cX12_rain 66 = .ok (.iconst 3, 1) := by decide +kernel
theorem dX12_rain_67 : decode cX12_rain 67 = .ok (.aload_n 0, 1) := by decide +kernel
theorem dX12_rain_68 : decode cX12_rain 68 = .ok (.iload_n 1, 1) := by decide +kernel
theorem dX12_rain_69 : decode cX12_rain 69 = .ok (.iconst 3, 1) := by decide +kernel
theorem dX12_rain_70 : decode cX12_rain 70 = .ok (.invokevirtual 105, 3) := by decide +kernel
theorem dX12_rain_73 : decode cX12_rain 73 = .ok (.iconst 1, 1) := by decide +kernel
theorem dX12_rain_74 : decode cX12_rain 74 = .ok (.iadd, 1) := by decide +kernel
theorem dX12_rain_75 : decode cX12_rain 75 = .ok (.i2l, 1) := by decide +kernel
theorem dX12_rain_76 : decode cX12_rain 76 = .ok (.iconst 0, 1) := by decide +kernel
theorem dX12_rain_77 : decode cX12_rain 77 = .ok (.sipush 999, 3) := by decide +kernel
theorem dX12_rain_80 : decode cX12_rain 80 = .ok (.invokestatic 317, 3) := by decide +kernel
theorem dX12_rain_83 : decode cX12_rain 83 = .ok (.invokevirtual 108, 3) := by decide +kernel
theorem dX12_rain_86 : decode cX12_rain 86 = .ok (.aload_n 0, 1) := by decide +kernel
theorem dX12_rain_87 : decode cX12_rain 87 = .ok (.dup, 1) := by decide +kernel
theorem dX12_rain_88 : decode cX12_rain 88 = .ok (.getfield 355, 3) := by decide +kernel
theorem dX12_rain_91 : decode cX12_rain 91 = .ok (.iconst 1, 1) := by decide +kernel
theorem dX12_rain_92 : decode cX12_rain 92 = .ok (.iadd, 1) := by decide +kernel
theorem dX12_rain_93 : decode cX12_rain 93 = .ok (.putfield 355, 3) := by decide +kernel
theorem dX12_rain_96 : decode cX12_rain 96 = .ok (.aload_n 0, 1) := by decide +kernel
theorem dX12_rain_97 : decode cX12_rain 97 = .ok (.iload_n 1, 1) := by decide +kernel
theorem dX12_rain_98 : decode cX12_rain 98 = .ok (.iload_n 3, 1) := by decide +kernel
theorem dX12_rain_99 : decode cX12_rain 99 = .ok (.invokevirtual 358, 3) := by decide +kernel
theorem dX12_rain_102 : decode cX12_rain 102 = .ok (.return_, 1) := by decide +kernel
theorem dX12_nextTo_0 : decode cX12_nextTo 0 = .ok (.aload_n 0, 1) := by decide +kernel
theorem dX12_nextTo_1 : decode cX12_nextTo 1 = .ok (.iload_n 2, 1) := by decide +kernel
theorem dX12_nextTo_2 : decode cX12_nextTo 2 = .ok (.aload_n 0, 1) := by decide +kernel
theorem dX12_nextTo_3 : decode cX12_nextTo 3 = .ok (.invokevirtual 324, 3) := by decide +kernel
theorem dX12_nextTo_6 : decode cX12_nextTo 6 = .ok (.invokevirtual 327, 3) := by decide +kernel
theorem dX12_nextTo_9 : decode cX12_nextTo 9 = .ok (.iconst 0, 1) := by decide +kernel
theorem dX12_nextTo_10 : decode cX12_nextTo 10 = .ok (.istore_n 3, 1) := by decide +kernel
theorem dX12_nextTo_11 : decode cX12_nextTo 11 = .ok (.iload_n 1, 1) := by decide +kernel
theorem dX12_nextTo_12 : decode cX12_nextTo 12 = .ok (.invokestatic 361, 3) := by decide +kernel
theorem dX12_nextTo_15 : decode cX12_nextTo 15 = .ok (.iload_n 3, 1) := by decide +kernel
theorem dX12_nextTo_16 : decode cX12_nextTo 16 = .ok (.invokestatic 270, 3) := by decide +kernel
theorem dX12_nextTo_19 : decode cX12_nextTo 19 = .ok (.ifCond .eq 20, 3) := by decide +kernel
theorem dX12_nextTo_22 : decode cX12_nextTo 22 = .ok (.aload_n 0, 1) := by decide +kernel
theorem dX12_nextTo_23 : decode cX12_nextTo 23 = .ok (.getfield 43, 3) := by decide +kernel
theorem dX12_nextTo_26 : decode cX12_nextTo 26 = .ok (.iload_n 3, 1) := by decide +kernel
theorem dX12_nextTo_27 : decode cX12_nextTo 27 = .ok (.iaload, 1) := by decide +kernel
theorem dX12_nextTo_28 : decode cX12_nextTo 28 = .ok (.aload_n 0, 1) := by decide +kernel
theorem dX12_nextTo_29 : decode cX12_nextTo 29 = .ok (.getfield 43, 3) := by decide +kernel
theorem dX12_nextTo_32 : decode cX12_nextTo 32 = .ok (.iload_n 1, 1) := by decide +kernel
theorem dX12_nextTo_33 : decode cX12_nextTo 33 = .ok (.iaload, 1) := by decide +kernel
theorem dX12_nextTo_34 : decode cX12_nextTo 34 = .ok (.iconst 1, 1) := by decide +kernel
theorem dX12_nextTo_35 : decode cX12_nextTo 35 = .ok (.isub, 1) := by decide +kernel
theorem dX12_nextTo_36 : decode cX12_nextTo 36 = .ok (.if_icmp .eq 9, 3) := by decide +kernel
theorem dX12_nextTo_39 : decode cX12_nextTo 39 = .ok (.iinc 3 1, 3) := by decide +kernel
theorem dX12_nextTo_42 : decode cX12_nextTo 42 = .ok (.goto (-31), 3) := by decide +kernel
theorem dX12_nextTo_45 : decode cX12_nextTo 45 = .ok (.iload_n 3, 1) := by decide +kernel
theorem dX12_nextTo_46 : decode cX12_nextTo 46 = .ok (.ireturn, 1) := by decide +kernel
theorem dX12_goOn_0 : decode cX12_goOn 0 = .ok (.iload_n 1, 1) := by decide +kernel
theorem dX12_goOn_1 : decode cX12_goOn 1 = .ok (.iconst (-1), 1) := by decide +kernel
theorem dX12_goOn_2 : decode cX12_goOn 2 = .ok (.if_icmp .eq 28, 3) := by decide +kernel
theorem dX12_goOn_5 : decode cX12_goOn 5 = .ok (.aload_n 0, 1) := by decide +kernel
theorem dX12_goOn_6 : decode cX12_goOn 6 = .ok (.getfield 7, 3) := by decide +kernel
theorem dX12_goOn_9 : decode cX12_goOn 9 = .ok (.bipush 7, 2) := by decide +kernel
theorem dX12_goOn_11 : decode cX12_goOn 11 = .ok (.aload_n 0, 1) := by decide +kernel
theorem dX12_goOn_12 : decode cX12_goOn 12 = .ok (.aload_n 0, 1) := by decide +kernel
theorem dX12_goOn_13 : decode cX12_goOn 13 = .ok (.getfield 7, 3) := by decide +kernel
theorem dX12_goOn_16 : decode cX12_goOn 16 = .ok (.bipush 7, 2) := by decide +kernel
theorem dX12_goOn_18 : decode cX12_goOn 18 = .ok (.iaload, 1) := by decide +kernel
theorem dX12_goOn_19 : decode cX12_goOn 19 = .ok (.aload_n 0, 1) := by decide +kernel
theorem dX12_goOn_20 : decode cX12_goOn 20 = .ok (.iload_n 1, 1) := by decide +kernel
theorem dX12_goOn_21 : decode cX12_goOn 21 = .ok (.iconst 0, 1) := by decide +kernel
theorem dX12_goOn_22 : decode cX12_goOn 22 = .ok (.invokevirtual 105, 3) := by decide +kernel
theorem dX12_goOn_25 : decode cX12_goOn 25 = .ok (.invokevirtual 364, 3) := by decide +kernel
theorem dX12_goOn_28 : decode cX12_goOn 28 = .ok (.iastore, 1) := by decide +kernel
theorem dX12_goOn_29 : decode cX12_goOn 29 = .ok (.return_, 1) := by decide +kernel
theorem dX12_goOn_30 : decode cX12_goOn 30 = .ok (.aload_n 0, 1) := by decide +kernel
theorem dX12_goOn_31 : decode cX12_goOn 31 = .ok (.getfield 7, 3) := by decide +kernel
theorem dX12_goOn_34 : decode cX12_goOn 34 = .ok (.bipush 7, 2) := by decide +kernel
theorem dX12_goOn_36 : decode cX12_goOn 36 = .ok (.iaload, 1) := by decide +kernel
theorem dX12_goOn_37 : decode cX12_goOn 37 = .ok (.aload_n 0, 1) := by decide +kernel
theorem dX12_goOn_38 : decode cX12_goOn 38 = .ok (.iconst 4, 1) := by decide +kernel
theorem dX12_goOn_39 : decode cX12_goOn 39 = .ok (.invokevirtual 367, 3) := by decide +kernel
theorem dX12_goOn_42 : decode cX12_goOn 42 = .ok (.invokestatic 95, 3) := by decide +kernel
theorem dX12_goOn_45 : decode cX12_goOn 45 = .ok (.istore_n 2, 1) := by decide +kernel
theorem dX12_goOn_46 : decode cX12_goOn 46 = .ok (.aload_n 0, 1) := by decide +kernel
theorem dX12_goOn_47 : decode cX12_goOn 47 = .ok (.iload_n 2, 1) := by decide +kernel
theorem dX12_goOn_48 : decode cX12_goOn 48 = .ok (.invokevirtual 99, 3) := by decide +kernel
theorem dX12_goOn_51 : decode cX12_goOn 51 = .ok (.ifCond .eq 11, 3) := by decide +kernel
theorem dX12_goOn_54 : decode cX12_goOn 54 = .ok (.aload_n 0, 1) := by decide +kernel
theorem dX12_goOn_55 : decode cX12_goOn 55 = .ok (.getfield 7, 3) := by decide +kernel
theorem dX12_goOn_58 : decode cX12_goOn 58 = .ok (.bipush 7, 2) := by decide +kernel
theorem dX12_goOn_60 : decode cX12_goOn 60 = .ok (.iload_n 2, 1) := by decide +kernel
theorem dX12_goOn_61 : decode cX12_goOn 61 = .ok (.iastore, 1) := by decide +kernel
theorem dX12_goOn_62 : decode cX12_goOn 62 = .ok (.return_, 1) := by decide +kernel
theorem dX12_pass_0 : decode cX12_pass 0 = .ok (.aload_n 0, 1) := by decide +kernel
theorem dX12_pass_1 : decode cX12_pass 1 = .ok (.invokevirtual 370, 3) := by decide +kernel
theorem dX12_pass_4 : decode cX12_pass 4 = .ok (.istore_n 1, 1) := by decide +kernel
theorem dX12_pass_5 : decode cX12_pass 5 = .ok (.iload_n 1, 1) := by decide +kernel
theorem dX12_pass_6 : decode cX12_pass 6 = .ok (.iconst (-1), 1) := by decide +kernel
theorem dX12_pass_7 : decode cX12_pass 7 = .ok (.if_icmp .eq 23, 3) := by decide +kernel
theorem dX12_pass_10 : decode cX12_pass 10 = .ok (.aload_n 0, 1) := by decide +kernel
theorem dX12_pass_11 : decode cX12_pass 11 = .ok (.iload_n 1, 1) := by decide +kernel
theorem dX12_pass_12 : decode cX12_pass 12 = .ok (.iconst 0, 1) := by decide +kernel
theorem dX12_pass_13 : decode cX12_pass 13 = .ok (.invokevirtual 105, 3) := by decide +kernel
theorem dX12_pass_16 : decode cX12_pass 16 = .ok (.aload_n 0, 1) := by decide +kernel
theorem dX12_pass_17 : decode cX12_pass 17 = .ok (.getfield 7, 3) := by decide +kernel
theorem dX12_pass_20 : decode cX12_pass 20 = .ok (.bipush 7, 2) := by decide +kernel
theorem dX12_pass_22 : decode cX12_pass 22 = .ok (.iaload, 1) := by decide +kernel
theorem dX12_pass_23 : decode cX12_pass 23 = .ok (.if_icmp .ne 7, 3) := by decide +kernel
theorem dX12_pass_26 : decode cX12_pass 26 = .ok (.iconst 1, 1) := by decide +kernel
theorem dX12_pass_27 : decode cX12_pass 27 = .ok (.goto 4, 3) := by decide +kernel
theorem dX12_pass_30 : decode cX12_pass 30 = .ok (.iconst 0, 1) := by decide +kernel
theorem dX12_pass_31 : decode cX12_pass 31 = .ok (.istore_n 2, 1) := by decide +kernel
theorem dX12_pass_32 : decode cX12_pass 32 = .ok (.iload_n 2, 1) := by decide +kernel
theorem dX12_pass_33 : decode cX12_pass 33 = .ok (.ifCond .eq 11, 3) := by decide +kernel
theorem dX12_pass_36 : decode cX12_pass 36 = .ok (.aload_n 0, 1) := by decide +kernel
theorem dX12_pass_37 : decode cX12_pass 37 = .ok (.iload_n 1, 1) := by decide +kernel
theorem dX12_pass_38 : decode cX12_pass 38 = .ok (.invokevirtual 373, 3) := by decide +kernel
theorem dX12_pass_41 : decode cX12_pass 41 = .ok (.goto 8, 3) := by decide +kernel
theorem dX12_pass_44 : decode cX12_pass 44 = .ok (.aload_n 0, 1) := by decide +kernel
theorem dX12_pass_45 : decode cX12_pass 45 = .ok (.iload_n 1, 1) := by decide +kernel
theorem dX12_pass_46 : decode cX12_pass 46 = .ok (.invokevirtual 376, 3) := by decide +kernel
theorem dX12_pass_49 : decode cX12_pass 49 = .ok (.iconst 0, 1) := by decide +kernel
theorem dX12_pass_50 : decode cX12_pass 50 = .ok (.istore_n 3, 1) := by decide +kernel
theorem dX12_pass_51 : decode cX12_pass 51 = .ok (.iload_n 3, 1) := by decide +kernel
theorem dX12_pass_52 : decode cX12_pass 52 = .ok (.aload_n 0, 1) := by decide +kernel
theorem dX12_pass_53 : decode cX12_pass 53 = .ok (.getfield 7, 3) := by decide +kernel
theorem dX12_pass_56 : decode cX12_pass 56 = .ok (.iconst 0, 1) := by decide +kernel
theorem dX12_pass_57 : decode cX12_pass 57 = .ok (.iaload, 1) := by decide +kernel
theorem dX12_pass_58 : decode cX12_pass 58 = .ok (.if_icmp .ge 39, 3) := by decide +kernel
theorem dX12_pass_61 : decode cX12_pass 61 = .ok (.iload_n 2, 1) := by decide +kernel
theorem dX12_pass_62 : decode cX12_pass 62 = .ok (.ifCond .eq 8, 3) := by decide +kernel
theorem dX12_pass_65 : decode cX12_pass 65 = .ok (.iload_n 3, 1) := by decide +kernel
theorem dX12_pass_66 : decode cX12_pass 66 = .ok (.iload_n 1, 1) := by decide +kernel
theorem dX12_pass_67 : decode cX12_pass 67 = .ok (.if_icmp .eq 24, 3) := by decide +kernel
theorem dX12_pass_70 : decode cX12_pass 70 = .ok (.aload_n 0, 1) := by decide +kernel
theorem dX12_pass_71 : decode cX12_pass 71 = .ok (.iload_n 3, 1) := by decide +kernel
theorem dX12_pass_72 : decode cX12_pass 72 = .ok (.iconst 2, 1) := by decide +kernel
theorem dX12_pass_73 : decode cX12_pass 73 = .ok (.aload_n 0, 1) := by decide +kernel
theorem dX12_pass_74 : decode cX12_pass 74 = .ok (.iload_n 3, 1) := by decide +kernel
theorem dX12_pass_75 : decode cX12_pass 75 = .ok (.iconst 2, 1) := by decide +kernel
theorem dX12_pass_76 : decode cX12_pass 76 = .ok (.invokevirtual 105, 3) := by decide +kernel
theorem dX12_pass_79 : decode cX12_pass 79 = .ok (.iconst 1, 1) := by decide +kernel
theorem dX12_pass_80 : decode cX12_pass 80 = .ok (.isub, 1) := by decide +kernel
theorem dX12_pass_81 : decode cX12_pass 81 = .ok (.i2l, 1) := by decide +kernel
theorem dX12_pass_82 : decode cX12_pass 82 = .ok (.iconst 0, 1) := by decide +kernel
theorem dX12_pass_83 : decode cX12_pass 83 = .ok (.bipush 99, 2) := by decide +kernel
theorem dX12_pass_85 : decode cX12_pass 85 = .ok (.invokestatic 317, 3) := by decide +kernel
theorem dX12_pass_88 : decode cX12_pass 88 = .ok (.invokevirtual 108, 3) := by decide +kernel
theorem dX12_pass_91 : decode cX12_pass 91 = .ok (.iinc 3 1, 3) := by decide +kernel
theorem dX12_pass_94 : decode cX12_pass 94 = .ok (.goto (-43), 3) := by decide +kernel
theorem dX12_pass_97 : decode cX12_pass 97 = .ok (.aload_n 0, 1) := by decide +kernel
theorem dX12_pass_98 : decode cX12_pass 98 = .ok (.getfield 7, 3) := by decide +kernel
theorem dX12_pass_101 : decode cX12_pass 101 = .ok (.bipush 6, 2) := by decide +kernel
theorem dX12_pass_103 : decode cX12_pass 103 = .ok (.dup2, 1) := by decide +kernel
theorem dX12_pass_104 : decode cX12_pass 104 = .ok (.iaload, 1) := by decide +kernel
theorem dX12_pass_105 : decode cX12_pass 105 = .ok (.iconst 1, 1) := by decide +kernel
theorem dX12_pass_106 : decode cX12_pass 106 = .ok (.iadd, 1) := by decide +kernel
theorem dX12_pass_107 : decode cX12_pass 107 = .ok (.iastore, 1) := by decide +kernel
theorem dX12_pass_108 : decode cX12_pass 108 = .ok (.return_, 1) := by decide +kernel
theorem dX12_keep_0 : decode cX12_keep 0 = .ok (.aload_n 0, 1) := by decide +kernel
theorem dX12_keep_1 : decode cX12_keep 1 = .ok (.getfield 7, 3) := by decide +kernel
theorem dX12_keep_4 : decode cX12_keep 4 = .ok (.iconst 3, 1) := by decide +kernel
theorem dX12_keep_5 : decode cX12_keep 5 = .ok (.iaload, 1) := by decide +kernel
theorem dX12_keep_6 : decode cX12_keep 6 = .ok (.bipush 30, 2) := by decide +kernel
theorem dX12_keep_8 : decode cX12_keep 8 = .ok (.if_icmp .ne 48, 3) := by decide +kernel
theorem dX12_keep_11 : decode cX12_keep 11 = .ok (.iconst 0, 1) := by decide +kernel
theorem dX12_keep_12 : decode cX12_keep 12 = .ok (.istore_n 1, 1) := by decide +kernel
theorem dX12_keep_13 : decode cX12_keep 13 = .ok (.iload_n 1, 1) := by decide +kernel
theorem dX12_keep_14 : decode cX12_keep 14 = .ok (.sipush 3335, 3) := by decide +kernel
theorem dX12_keep_17 : decode cX12_keep 17 = .ok (.if_icmp .ge 29, 3) := by decide +kernel
theorem dX12_keep_20 : decode cX12_keep 20 = .ok (.aload_n 0, 1) := by decide +kernel
theorem dX12_keep_21 : decode cX12_keep 21 = .ok (.getfield 7, 3) := by decide +kernel
theorem dX12_keep_24 : decode cX12_keep 24 = .ok (.sipush 193, 3) := by decide +kernel
theorem dX12_keep_27 : decode cX12_keep 27 = .ok (.iload_n 1, 1) := by decide +kernel
theorem dX12_keep_28 : decode cX12_keep 28 = .ok (.iadd, 1) := by decide +kernel
theorem dX12_keep_29 : decode cX12_keep 29 = .ok (.aload_n 0, 1) := by decide +kernel
theorem dX12_keep_30 : decode cX12_keep 30 = .ok (.getfield 7, 3) := by decide +kernel
theorem dX12_keep_33 : decode cX12_keep 33 = .ok (.sipush 308, 3) := by decide +kernel
theorem dX12_keep_36 : decode cX12_keep 36 = .ok (.iload_n 1, 1) := by decide +kernel
theorem dX12_keep_37 : decode cX12_keep 37 = .ok (.iadd, 1) := by decide +kernel
theorem dX12_keep_38 : decode cX12_keep 38 = .ok (.iaload, 1) := by decide +kernel
theorem dX12_keep_39 : decode cX12_keep 39 = .ok (.iastore, 1) := by decide +kernel
theorem dX12_keep_40 : decode cX12_keep 40 = .ok (.iinc 1 1, 3) := by decide +kernel
theorem dX12_keep_43 : decode cX12_keep 43 = .ok (.goto (-30), 3) := by decide +kernel
theorem dX12_keep_46 : decode cX12_keep 46 = .ok (.aload_n 0, 1) := by decide +kernel
theorem dX12_keep_47 : decode cX12_keep 47 = .ok (.getfield 7, 3) := by decide +kernel
theorem dX12_keep_50 : decode cX12_keep 50 = .ok (.iconst 3, 1) := by decide +kernel
theorem dX12_keep_51 : decode cX12_keep 51 = .ok (.dup2, 1) := by decide +kernel
theorem dX12_keep_52 : decode cX12_keep 52 = .ok (.iaload, 1) := by decide +kernel
theorem dX12_keep_53 : decode cX12_keep 53 = .ok (.iconst 1, 1) := by decide +kernel
theorem dX12_keep_54 : decode cX12_keep 54 = .ok (.isub, 1) := by decide +kernel
theorem dX12_keep_55 : decode cX12_keep 55 = .ok (.iastore, 1) := by decide +kernel
theorem dX12_keep_56 : decode cX12_keep 56 = .ok (.sipush 193, 3) := by decide +kernel
theorem dX12_keep_59 : decode cX12_keep 59 = .ok (.bipush 115, 2) := by decide +kernel
theorem dX12_keep_61 : decode cX12_keep 61 = .ok (.aload_n 0, 1) := by decide +kernel
theorem dX12_keep_62 : decode cX12_keep 62 = .ok (.getfield 7, 3) := by decide +kernel
theorem dX12_keep_65 : decode cX12_keep 65 = .ok (.iconst 3, 1) := by decide +kernel
theorem dX12_keep_66 : decode cX12_keep 66 = .ok (.iaload, 1) := by decide +kernel
theorem dX12_keep_67 : decode cX12_keep 67 = .ok (.imul, 1) := by decide +kernel
theorem dX12_keep_68 : decode cX12_keep 68 = .ok (.iadd, 1) := by decide +kernel
theorem dX12_keep_69 : decode cX12_keep 69 = .ok (.istore_n 1, 1) := by decide +kernel
theorem dX12_keep_70 : decode cX12_keep 70 = .ok (.aload_n 0, 1) := by decide +kernel
theorem dX12_keep_71 : decode cX12_keep 71 = .ok (.getfield 7, 3) := by decide +kernel
theorem dX12_keep_74 : decode cX12_keep 74 = .ok (.iload_n 1, 1) := by decide +kernel
theorem dX12_keep_75 : decode cX12_keep 75 = .ok (.aload_n 0, 1) := by decide +kernel
theorem dX12_keep_76 : decode cX12_keep 76 = .ok (.getfield 7, 3) := by decide +kernel
theorem dX12_keep_79 : decode cX12_keep 79 = .ok (.iconst 0, 1) := by decide +kernel
theorem dX12_keep_80 : decode cX12_keep 80 = .ok (.iaload, 1) := by decide +kernel
theorem dX12_keep_81 : decode cX12_keep 81 = .ok (.iastore, 1) := by decide +kernel
theorem dX12_keep_82 : decode cX12_keep 82 = .ok (.iconst 0, 1) := by decide +kernel
theorem dX12_keep_83 : decode cX12_keep 83 = .ok (.istore_n 2, 1) := by decide +kernel
theorem dX12_keep_84 : decode cX12_keep 84 = .ok (.iload_n 2, 1) := by decide +kernel
theorem dX12_keep_85 : decode cX12_keep 85 = .ok (.iconst 4, 1) := by decide +kernel
theorem dX12_keep_86 : decode cX12_keep 86 = .ok (.if_icmp .ge 28, 3) := by decide +kernel
theorem dX12_keep_89 : decode cX12_keep 89 = .ok (.aload_n 0, 1) := by decide +kernel
theorem dX12_keep_90 : decode cX12_keep 90 = .ok (.getfield 7, 3) := by decide +kernel
theorem dX12_keep_93 : decode cX12_keep 93 = .ok (.iload_n 1, 1) := by decide +kernel
theorem dX12_keep_94 : decode cX12_keep 94 = .ok (.iconst 1, 1) := by decide +kernel
theorem dX12_keep_95 : decode cX12_keep 95 = .ok (.iadd, 1) := by decide +kernel
theorem dX12_keep_96 : decode cX12_keep 96 = .ok (.iload_n 2, 1) := by decide +kernel
theorem dX12_keep_97 : decode cX12_keep 97 = .ok (.iadd, 1) := by decide +kernel
theorem dX12_keep_98 : decode cX12_keep 98 = .ok (.aload_n 0, 1) := by decide +kernel
theorem dX12_keep_99 : decode cX12_keep 99 = .ok (.getfield 7, 3) := by decide +kernel
theorem dX12_keep_102 : decode cX12_keep 102 = .ok (.bipush 6, 2) := by decide +kernel
theorem dX12_keep_104 : decode cX12_keep 104 = .ok (.iload_n 2, 1) := by decide +kernel
theorem dX12_keep_105 : decode cX12_keep 105 = .ok (.iadd, 1) := by decide +kernel
theorem dX12_keep_106 : decode cX12_keep 106 = .ok (.iaload, 1) := by decide +kernel
theorem dX12_keep_107 : decode cX12_keep 107 = .ok (.iastore, 1) := by decide +kernel
theorem dX12_keep_108 : decode cX12_keep 108 = .ok (.iinc 2 1, 3) := by decide +kernel
theorem dX12_keep_111 : decode cX12_keep 111 = .ok (.goto (-27), 3) := by decide +kernel
theorem dX12_keep_114 : decode cX12_keep 114 = .ok (.iconst 0, 1) := by decide +kernel
theorem dX12_keep_115 : decode cX12_keep 115 = .ok (.istore_n 2, 1) := by decide +kernel
theorem dX12_keep_116 : decode cX12_keep 116 = .ok (.iload_n 2, 1) := by decide +kernel
theorem dX12_keep_117 : decode cX12_keep 117 = .ok (.iconst 5, 1) := by decide +kernel
theorem dX12_keep_118 : decode cX12_keep 118 = .ok (.if_icmp .ge 42, 3) := by decide +kernel
theorem dX12_keep_121 : decode cX12_keep 121 = .ok (.iconst 0, 1) := by decide +kernel
theorem dX12_keep_122 : decode cX12_keep 122 = .ok (.istore_n 3, 1) := by decide +kernel
theorem dX12_keep_123 : decode cX12_keep 123 = .ok (.iload_n 3, 1) := by decide +kernel
theorem dX12_keep_124 : decode cX12_keep 124 = .ok (.iconst 4, 1) := by decide +kernel
theorem dX12_keep_125 : decode cX12_keep 125 = .ok (.if_icmp .ge 29, 3) := by decide +kernel
theorem dX12_keep_128 : decode cX12_keep 128 = .ok (.aload_n 0, 1) := by decide +kernel
theorem dX12_keep_129 : decode cX12_keep 129 = .ok (.getfield 7, 3) := by decide +kernel
theorem dX12_keep_132 : decode cX12_keep 132 = .ok (.iload_n 1, 1) := by decide +kernel
theorem dX12_keep_133 : decode cX12_keep 133 = .ok (.iconst 5, 1) := by decide +kernel
theorem dX12_keep_134 : decode cX12_keep 134 = .ok (.iadd, 1) := by decide +kernel
theorem dX12_keep_135 : decode cX12_keep 135 = .ok (.iconst 4, 1) := by decide +kernel
theorem dX12_keep_136 : decode cX12_keep 136 = .ok (.iload_n 2, 1) := by decide +kernel
theorem dX12_keep_137 : decode cX12_keep 137 = .ok (.imul, 1) := by decide +kernel
theorem dX12_keep_138 : decode cX12_keep 138 = .ok (.iadd, 1) := by decide +kernel
theorem dX12_keep_139 : decode cX12_keep 139 = .ok (.iload_n 3, 1) := by decide +kernel
theorem dX12_keep_140 : decode cX12_keep 140 = .ok (.iadd, 1) := by decide +kernel
theorem dX12_keep_141 : decode cX12_keep 141 = .ok (.aload_n 0, 1) := by decide +kernel
theorem dX12_keep_142 : decode cX12_keep 142 = .ok (.iload_n 2, 1) := by decide +kernel
theorem dX12_keep_143 : decode cX12_keep 143 = .ok (.iload_n 3, 1) := by decide +kernel
theorem dX12_keep_144 : decode cX12_keep 144 = .ok (.invokevirtual 105, 3) := by decide +kernel
theorem dX12_keep_147 : decode cX12_keep 147 = .ok (.iastore, 1) := by decide +kernel
theorem dX12_keep_148 : decode cX12_keep 148 = .ok (.iinc 3 1, 3) := by decide +kernel
theorem dX12_keep_151 : decode cX12_keep 151 = .ok (.goto (-28), 3) := by decide +kernel
theorem dX12_keep_154 : decode cX12_keep 154 = .ok (.iinc 2 1, 3) := by decide +kernel
theorem dX12_keep_157 : decode cX12_keep 157 = .ok (.goto (-41), 3) := by decide +kernel
theorem dX12_keep_160 : decode cX12_keep 160 = .ok (.iconst 0, 1) := by decide +kernel
theorem dX12_keep_161 : decode cX12_keep 161 = .ok (.istore_n 2, 1) := by decide +kernel
theorem dX12_keep_162 : decode cX12_keep 162 = .ok (.iload_n 2, 1) := by decide +kernel
theorem dX12_keep_163 : decode cX12_keep 163 = .ok (.bipush 30, 2) := by decide +kernel
theorem dX12_keep_165 : decode cX12_keep 165 = .ok (.if_icmp .ge 29, 3) := by decide +kernel
theorem dX12_keep_168 : decode cX12_keep 168 = .ok (.aload_n 0, 1) := by decide +kernel
theorem dX12_keep_169 : decode cX12_keep 169 = .ok (.getfield 7, 3) := by decide +kernel
theorem dX12_keep_172 : decode cX12_keep 172 = .ok (.iload_n 1, 1) := by decide +kernel
theorem dX12_keep_173 : decode cX12_keep 173 = .ok (.bipush 25, 2) := by decide +kernel
theorem dX12_keep_175 : decode cX12_keep 175 = .ok (.iadd, 1) := by decide +kernel
theorem dX12_keep_176 : decode cX12_keep 176 = .ok (.iload_n 2, 1) := by decide +kernel
theorem dX12_keep_177 : decode cX12_keep 177 = .ok (.iadd, 1) := by decide +kernel
theorem dX12_keep_178 : decode cX12_keep 178 = .ok (.aload_n 0, 1) := by decide +kernel
theorem dX12_keep_179 : decode cX12_keep 179 = .ok (.getfield 7, 3) := by decide +kernel
theorem dX12_keep_182 : decode cX12_keep 182 = .ok (.bipush 40, 2) := by decide +kernel
theorem dX12_keep_184 : decode cX12_keep 184 = .ok (.iload_n 2, 1) := by decide +kernel
theorem dX12_keep_185 : decode cX12_keep 185 = .ok (.iadd, 1) := by decide +kernel
theorem dX12_keep_186 : decode cX12_keep 186 = .ok (.iaload, 1) := by decide +kernel
theorem dX12_keep_187 : decode cX12_keep 187 = .ok (.iastore, 1) := by decide +kernel
theorem dX12_keep_188 : decode cX12_keep 188 = .ok (.iinc 2 1, 3) := by decide +kernel
theorem dX12_keep_191 : decode cX12_keep 191 = .ok (.goto (-29), 3) := by decide +kernel
theorem dX12_keep_194 : decode cX12_keep 194 = .ok (.iconst 0, 1) := by decide +kernel
theorem dX12_keep_195 : decode cX12_keep 195 = .ok (.istore_n 2, 1) := by decide +kernel
theorem dX12_keep_196 : decode cX12_keep 196 = .ok (.iload_n 2, 1) := by decide +kernel
theorem dX12_keep_197 : decode cX12_keep 197 = .ok (.bipush 60, 2) := by decide +kernel
theorem dX12_keep_199 : decode cX12_keep 199 = .ok (.if_icmp .ge 30, 3) := by decide +kernel
theorem dX12_keep_202 : decode cX12_keep 202 = .ok (.aload_n 0, 1) := by decide +kernel
theorem dX12_keep_203 : decode cX12_keep 203 = .ok (.getfield 7, 3) := by decide +kernel
theorem dX12_keep_206 : decode cX12_keep 206 = .ok (.iload_n 1, 1) := by decide +kernel
theorem dX12_keep_207 : decode cX12_keep 207 = .ok (.bipush 55, 2) := by decide +kernel
theorem dX12_keep_209 : decode cX12_keep 209 = .ok (.iadd, 1) := by decide +kernel
theorem dX12_keep_210 : decode cX12_keep 210 = .ok (.iload_n 2, 1) := by decide +kernel
theorem dX12_keep_211 : decode cX12_keep 211 = .ok (.iadd, 1) := by decide +kernel
theorem dX12_keep_212 : decode cX12_keep 212 = .ok (.aload_n 0, 1) := by decide +kernel
theorem dX12_keep_213 : decode cX12_keep 213 = .ok (.getfield 7, 3) := by decide +kernel
theorem dX12_keep_216 : decode cX12_keep 216 = .ok (.sipush 3643, 3) := by decide +kernel
theorem dX12_keep_219 : decode cX12_keep 219 = .ok (.iload_n 2, 1) := by decide +kernel
theorem dX12_keep_220 : decode cX12_keep 220 = .ok (.iadd, 1) := by decide +kernel
theorem dX12_keep_221 : decode cX12_keep 221 = .ok (.iaload, 1) := by decide +kernel
theorem dX12_keep_222 : decode cX12_keep 222 = .ok (.iastore, 1) := by decide +kernel
theorem dX12_keep_223 : decode cX12_keep 223 = .ok (.iinc 2 1, 3) := by decide +kernel
theorem dX12_keep_226 : decode cX12_keep 226 = .ok (.goto (-30), 3) := by decide +kernel
theorem dX12_keep_229 : decode cX12_keep 229 = .ok (.aload_n 0, 1) := by decide +kernel
theorem dX12_keep_230 : decode cX12_keep 230 = .ok (.getfield 7, 3) := by decide +kernel
theorem dX12_keep_233 : decode cX12_keep 233 = .ok (.iconst 3, 1) := by decide +kernel
theorem dX12_keep_234 : decode cX12_keep 234 = .ok (.dup2, 1) := by decide +kernel
theorem dX12_keep_235 : decode cX12_keep 235 = .ok (.iaload, 1) := by decide +kernel
theorem dX12_keep_236 : decode cX12_keep 236 = .ok (.iconst 1, 1) := by decide +kernel
theorem dX12_keep_237 : decode cX12_keep 237 = .ok (.iadd, 1) := by decide +kernel
theorem dX12_keep_238 : decode cX12_keep 238 = .ok (.iastore, 1) := by decide +kernel
theorem dX12_keep_239 : decode cX12_keep 239 = .ok (.return_, 1) := by decide +kernel
theorem dX12_undo_0 : decode cX12_undo 0 = .ok (.aload_n 0, 1) := by decide +kernel
theorem dX12_undo_1 : decode cX12_undo 1 = .ok (.getfield 7, 3) := by decide +kernel
theorem dX12_undo_4 : decode cX12_undo 4 = .ok (.iconst 3, 1) := by decide +kernel
theorem dX12_undo_5 : decode cX12_undo 5 = .ok (.iaload, 1) := by decide +kernel
theorem dX12_undo_6 : decode cX12_undo 6 = .ok (.ifCond .ne 5, 3) := by decide +kernel
theorem dX12_undo_9 : decode cX12_undo 9 = .ok (.iconst (-1), 1) := by decide +kernel
theorem dX12_undo_10 : decode cX12_undo 10 = .ok (.ireturn, 1) := by decide +kernel
theorem dX12_undo_11 : decode cX12_undo 11 = .ok (.aload_n 0, 1) := by decide +kernel
theorem dX12_undo_12 : decode cX12_undo 12 = .ok (.getfield 7, 3) := by decide +kernel
theorem dX12_undo_15 : decode cX12_undo 15 = .ok (.iconst 3, 1) := by decide +kernel
theorem dX12_undo_16 : decode cX12_undo 16 = .ok (.dup2, 1) := by decide +kernel
theorem dX12_undo_17 : decode cX12_undo 17 = .ok (.iaload, 1) := by decide +kernel
theorem dX12_undo_18 : decode cX12_undo 18 = .ok (.iconst 1, 1) := by decide +kernel
theorem dX12_undo_19 : decode cX12_undo 19 = .ok (.isub, 1) := by decide +kernel
theorem dX12_undo_20 : decode cX12_undo 20 = .ok (.iastore, 1) := by decide +kernel
theorem dX12_undo_21 : decode cX12_undo 21 = .ok (.sipush 193, 3) := by decide +kernel
theorem dX12_undo_24 : decode cX12_undo 24 = .ok (.bipush 115, 2) := by decide +kernel
theorem dX12_undo_26 : decode cX12_undo 26 = .ok (.aload_n 0, 1) := by decide +kernel
theorem dX12_undo_27 : decode cX12_undo 27 = .ok (.getfield 7, 3) := by decide +kernel
theorem dX12_undo_30 : decode cX12_undo 30 = .ok (.iconst 3, 1) := by decide +kernel
theorem dX12_undo_31 : decode cX12_undo 31 = .ok (.iaload, 1) := by decide +kernel
theorem dX12_undo_32 : decode cX12_undo 32 = .ok (.imul, 1) := by decide +kernel
theorem dX12_undo_33 : decode cX12_undo 33 = .ok (.iadd, 1) := by decide +kernel
theorem dX12_undo_34 : decode cX12_undo 34 = .ok (.istore_n 1, 1) := by decide +kernel
theorem dX12_undo_35 : decode cX12_undo 35 = .ok (.iconst 0, 1) := by decide +kernel
theorem dX12_undo_36 : decode cX12_undo 36 = .ok (.istore_n 2, 1) := by decide +kernel
theorem dX12_undo_37 : decode cX12_undo 37 = .ok (.iload_n 2, 1) := by decide +kernel
theorem dX12_undo_38 : decode cX12_undo 38 = .ok (.iconst 4, 1) := by decide +kernel
theorem dX12_undo_39 : decode cX12_undo 39 = .ok (.if_icmp .ge 28, 3) := by decide +kernel
theorem dX12_undo_42 : decode cX12_undo 42 = .ok (.aload_n 0, 1) := by decide +kernel
theorem dX12_undo_43 : decode cX12_undo 43 = .ok (.getfield 7, 3) := by decide +kernel
theorem dX12_undo_46 : decode cX12_undo 46 = .ok (.bipush 6, 2) := by decide +kernel
theorem dX12_undo_48 : decode cX12_undo 48 = .ok (.iload_n 2, 1) := by decide +kernel
theorem dX12_undo_49 : decode cX12_undo 49 = .ok (.iadd, 1) := by decide +kernel
theorem dX12_undo_50 : decode cX12_undo 50 = .ok (.aload_n 0, 1) := by decide +kernel
theorem dX12_undo_51 : decode cX12_undo 51 = .ok (.getfield 7, 3) := by decide +kernel
theorem dX12_undo_54 : decode cX12_undo 54 = .ok (.iload_n 1, 1) := by decide +kernel
theorem dX12_undo_55 : decode cX12_undo 55 = .ok (.iconst 1, 1) := by decide +kernel
theorem dX12_undo_56 : decode cX12_undo 56 = .ok (.iadd, 1) := by decide +kernel
theorem dX12_undo_57 : decode cX12_undo 57 = .ok (.iload_n 2, 1) := by decide +kernel
theorem dX12_undo_58 : decode cX12_undo 58 = .ok (.iadd, 1) := by decide +kernel
theorem dX12_undo_59 : decode cX12_undo 59 = .ok (.iaload, 1) := by decide +kernel
theorem dX12_undo_60 : decode cX12_undo 60 = .ok (.iastore, 1) := by decide +kernel
theorem dX12_undo_61 : decode cX12_undo 61 = .ok (.iinc 2 1, 3) := by decide +kernel
theorem dX12_undo_64 : decode cX12_undo 64 = .ok (.goto (-27), 3) := by decide +kernel
theorem dX12_undo_67 : decode cX12_undo 67 = .ok (.iconst 0, 1) := by decide +kernel
theorem dX12_undo_68 : decode cX12_undo 68 = .ok (.istore_n 2, 1) := by decide +kernel
theorem dX12_undo_69 : decode cX12_undo 69 = .ok (.iload_n 2, 1) := by decide +kernel
theorem dX12_undo_70 : decode cX12_undo 70 = .ok (.aload_n 0, 1) := by decide +kernel
theorem dX12_undo_71 : decode cX12_undo 71 = .ok (.getfield 7, 3) := by decide +kernel
theorem dX12_undo_74 : decode cX12_undo 74 = .ok (.iconst 0, 1) := by decide +kernel
theorem dX12_undo_75 : decode cX12_undo 75 = .ok (.iaload, 1) := by decide +kernel
theorem dX12_undo_76 : decode cX12_undo 76 = .ok (.if_icmp .ge 67, 3) := by decide +kernel
theorem dX12_undo_79 : decode cX12_undo 79 = .ok (.iload_n 2, 1) := by decide +kernel
theorem dX12_undo_80 : decode cX12_undo 80 = .ok (.aload_n 0, 1) := by decide +kernel
theorem dX12_undo_81 : decode cX12_undo 81 = .ok (.getfield 7, 3) := by decide +kernel
theorem dX12_undo_84 : decode cX12_undo 84 = .ok (.iload_n 1, 1) := by decide +kernel
theorem dX12_undo_85 : decode cX12_undo 85 = .ok (.iaload, 1) := by decide +kernel
theorem dX12_undo_86 : decode cX12_undo 86 = .ok (.if_icmp .lt 8, 3) := by decide +kernel
theorem dX12_undo_89 : decode cX12_undo 89 = .ok (.aload_n 0, 1) := by decide +kernel
theorem dX12_undo_90 : decode cX12_undo 90 = .ok (.iload_n 2, 1) := by decide +kernel
theorem dX12_undo_91 : decode cX12_undo 91 = .ok (.invokevirtual 112, 3) := by decide +kernel
theorem dX12_undo_94 : decode cX12_undo 94 = .ok (.iconst 0, 1) := by decide +kernel
theorem dX12_undo_95 : decode cX12_undo 95 = .ok (.istore_n 3, 1) := by decide +kernel
theorem dX12_undo_96 : decode cX12_undo 96 = .ok (.iload_n 3, 1) := by decide +kernel
theorem dX12_undo_97 : decode cX12_undo 97 = .ok (.iconst 4, 1) := by decide +kernel
theorem dX12_undo_98 : decode cX12_undo 98 = .ok (.if_icmp .ge 39, 3) := by decide +kernel
theorem dX12_undo_101 : decode cX12_undo 101 = .ok (.iload_n 2, 1) := by decide +kernel
theorem dX12_undo_102 : decode cX12_undo 102 = .ok (.aload_n 0, 1) := by decide +kernel
theorem dX12_undo_103 : decode cX12_undo 103 = .ok (.getfield 7, 3) := by decide +kernel
theorem dX12_undo_106 : decode cX12_undo 106 = .ok (.iload_n 1, 1) := by decide +kernel
theorem dX12_undo_107 : decode cX12_undo 107 = .ok (.iaload, 1) := by decide +kernel
theorem dX12_undo_108 : decode cX12_undo 108 = .ok (.if_icmp .ge 29, 3) := by decide +kernel
theorem dX12_undo_111 : decode cX12_undo 111 = .ok (.aload_n 0, 1) := by decide +kernel
theorem dX12_undo_112 : decode cX12_undo 112 = .ok (.iload_n 2, 1) := by decide +kernel
theorem dX12_undo_113 : decode cX12_undo 113 = .ok (.iload_n 3, 1) := by decide +kernel
theorem dX12_undo_114 : decode cX12_undo 114 = .ok (.aload_n 0, 1) := by decide +kernel
theorem dX12_undo_115 : decode cX12_undo 115 = .ok (.getfield 7, 3) := by decide +kernel
theorem dX12_undo_118 : decode cX12_undo 118 = .ok (.iload_n 1, 1) := by decide +kernel
theorem dX12_undo_119 : decode cX12_undo 119 = .ok (.iconst 5, 1) := by decide +kernel
theorem dX12_undo_120 : decode cX12_undo 120 = .ok (.iadd, 1) := by decide +kernel
theorem dX12_undo_121 : decode cX12_undo 121 = .ok (.iconst 4, 1) := by decide +kernel
theorem dX12_undo_122 : decode cX12_undo 122 = .ok (.iload_n 2, 1) := by decide +kernel
theorem dX12_undo_123 : decode cX12_undo 123 = .ok (.imul, 1) := by decide +kernel
theorem dX12_undo_124 : decode cX12_undo 124 = .ok (.iadd, 1) := by decide +kernel
theorem dX12_undo_125 : decode cX12_undo 125 = .ok (.iload_n 3, 1) := by decide +kernel
theorem dX12_undo_126 : decode cX12_undo 126 = .ok (.iadd, 1) := by decide +kernel
theorem dX12_undo_127 : decode cX12_undo 127 = .ok (.iaload, 1) := by decide +kernel
theorem dX12_undo_128 : decode cX12_undo 128 = .ok (.invokevirtual 108, 3) := by decide +kernel
theorem dX12_undo_131 : decode cX12_undo 131 = .ok (.iinc 3 1, 3) := by decide +kernel
theorem dX12_undo_134 : decode cX12_undo 134 = .ok (.goto (-38), 3) := by decide +kernel
theorem dX12_undo_137 : decode cX12_undo 137 = .ok (.iinc 2 1, 3) := by decide +kernel
theorem dX12_undo_140 : decode cX12_undo 140 = .ok (.goto (-71), 3) := by decide +kernel
theorem dX12_undo_143 : decode cX12_undo 143 = .ok (.iconst 0, 1) := by decide +kernel
theorem dX12_undo_144 : decode cX12_undo 144 = .ok (.istore_n 2, 1) := by decide +kernel
theorem dX12_undo_145 : decode cX12_undo 145 = .ok (.iload_n 2, 1) := by decide +kernel
theorem dX12_undo_146 : decode cX12_undo 146 = .ok (.bipush 30, 2) := by decide +kernel
theorem dX12_undo_148 : decode cX12_undo 148 = .ok (.if_icmp .ge 29, 3) := by decide +kernel
theorem dX12_undo_151 : decode cX12_undo 151 = .ok (.aload_n 0, 1) := by decide +kernel
theorem dX12_undo_152 : decode cX12_undo 152 = .ok (.getfield 7, 3) := by decide +kernel
theorem dX12_undo_155 : decode cX12_undo 155 = .ok (.bipush 40, 2) := by decide +kernel
theorem dX12_undo_157 : decode cX12_undo 157 = .ok (.iload_n 2, 1) := by decide +kernel
theorem dX12_undo_158 : decode cX12_undo 158 = .ok (.iadd, 1) := by decide +kernel
theorem dX12_undo_159 : decode cX12_undo 159 = .ok (.aload_n 0, 1) := by decide +kernel
theorem dX12_undo_160 : decode cX12_undo 160 = .ok (.getfield 7, 3) := by decide +kernel
theorem dX12_undo_163 : decode cX12_undo 163 = .ok (.iload_n 1, 1) := by decide +kernel
theorem dX12_undo_164 : decode cX12_undo 164 = .ok (.bipush 25, 2) := by decide +kernel
theorem dX12_undo_166 : decode cX12_undo 166 = .ok (.iadd, 1) := by decide +kernel
theorem dX12_undo_167 : decode cX12_undo 167 = .ok (.iload_n 2, 1) := by decide +kernel
theorem dX12_undo_168 : decode cX12_undo 168 = .ok (.iadd, 1) := by decide +kernel
theorem dX12_undo_169 : decode cX12_undo 169 = .ok (.iaload, 1) := by decide +kernel
theorem dX12_undo_170 : decode cX12_undo 170 = .ok (.iastore, 1) := by decide +kernel
theorem dX12_undo_171 : decode cX12_undo 171 = .ok (.iinc 2 1, 3) := by decide +kernel
theorem dX12_undo_174 : decode cX12_undo 174 = .ok (.goto (-29), 3) := by decide +kernel
theorem dX12_undo_177 : decode cX12_undo 177 = .ok (.iconst 0, 1) := by decide +kernel
theorem dX12_undo_178 : decode cX12_undo 178 = .ok (.istore_n 2, 1) := by decide +kernel
theorem dX12_undo_179 : decode cX12_undo 179 = .ok (.iload_n 2, 1) := by decide +kernel
theorem dX12_undo_180 : decode cX12_undo 180 = .ok (.bipush 60, 2) := by decide +kernel
theorem dX12_undo_182 : decode cX12_undo 182 = .ok (.if_icmp .ge 30, 3) := by decide +kernel
theorem dX12_undo_185 : decode cX12_undo 185 = .ok (.aload_n 0, 1) := by decide +kernel
theorem dX12_undo_186 : decode cX12_undo 186 = .ok (.getfield 7, 3) := by decide +kernel
theorem dX12_undo_189 : decode cX12_undo 189 = .ok (.sipush 3643, 3) := by decide +kernel
theorem dX12_undo_192 : decode cX12_undo 192 = .ok (.iload_n 2, 1) := by decide +kernel
theorem dX12_undo_193 : decode cX12_undo 193 = .ok (.iadd, 1) := by decide +kernel
theorem dX12_undo_194 : decode cX12_undo 194 = .ok (.aload_n 0, 1) := by decide +kernel
theorem dX12_undo_195 : decode cX12_undo 195 = .ok (.getfield 7, 3) := by decide +kernel
theorem dX12_undo_198 : decode cX12_undo 198 = .ok (.iload_n 1, 1) := by decide +kernel
theorem dX12_undo_199 : decode cX12_undo 199 = .ok (.bipush 55, 2) := by decide +kernel
theorem dX12_undo_201 : decode cX12_undo 201 = .ok (.iadd, 1) := by decide +kernel
theorem dX12_undo_202 : decode cX12_undo 202 = .ok (.iload_n 2, 1) := by decide +kernel
theorem dX12_undo_203 : decode cX12_undo 203 = .ok (.iadd, 1) := by decide +kernel
theorem dX12_undo_204 : decode cX12_undo 204 = .ok (.iaload, 1) := by decide +kernel
theorem dX12_undo_205 : decode cX12_undo 205 = .ok (.iastore, 1) := by decide +kernel
theorem dX12_undo_206 : decode cX12_undo 206 = .ok (.iinc 2 1, 3) := by decide +kernel
theorem dX12_undo_209 : decode cX12_undo 209 = .ok (.goto (-30), 3) := by decide +kernel
theorem dX12_undo_212 : decode cX12_undo 212 = .ok (.aload_n 0, 1) := by decide +kernel
theorem dX12_undo_213 : decode cX12_undo 213 = .ok (.getfield 7, 3) := by decide +kernel
theorem dX12_undo_216 : decode cX12_undo 216 = .ok (.iconst 3, 1) := by decide +kernel
theorem dX12_undo_217 : decode cX12_undo 217 = .ok (.iaload, 1) := by decide +kernel
theorem dX12_undo_218 : decode cX12_undo 218 = .ok (.ireturn, 1) := by decide +kernel
theorem dX12_canWalk_0 : decode cX12_canWalk 0 = .ok (.aload_n 0, 1) := by decide +kernel
theorem dX12_canWalk_1 : decode cX12_canWalk 1 = .ok (.iload_n 1, 1) := by decide +kernel
theorem dX12_canWalk_2 : decode cX12_canWalk 2 = .ok (.invokevirtual 379, 3) := by decide +kernel
theorem dX12_canWalk_5 : decode cX12_canWalk 5 = .ok (.ifCond .eq 31, 3) := by decide +kernel
theorem dX12_canWalk_8 : decode cX12_canWalk 8 = .ok (.aload_n 0, 1) := by decide +kernel
theorem dX12_canWalk_9 : decode cX12_canWalk 9 = .ok (.iload_n 2, 1) := by decide +kernel
theorem dX12_canWalk_10 : decode cX12_canWalk 10 = .ok (.invokevirtual 99, 3) := by decide +kernel
theorem dX12_canWalk_13 : decode cX12_canWalk 13 = .ok (.ifCond .eq 23, 3) := by decide +kernel
theorem dX12_canWalk_16 : decode cX12_canWalk 16 = .ok (.aload_n 0, 1) := by decide +kernel
theorem dX12_canWalk_17 : decode cX12_canWalk 17 = .ok (.iload_n 1, 1) := by decide +kernel
theorem dX12_canWalk_18 : decode cX12_canWalk 18 = .ok (.iconst 0, 1) := by decide +kernel
theorem dX12_canWalk_19 : decode cX12_canWalk 19 = .ok (.invokevirtual 105, 3) := by decide +kernel
theorem dX12_canWalk_22 : decode cX12_canWalk 22 = .ok (.invokestatic 361, 3) := by decide +kernel
theorem dX12_canWalk_25 : decode cX12_canWalk 25 = .ok (.iload_n 2, 1) := by decide +kernel
theorem dX12_canWalk_26 : decode cX12_canWalk 26 = .ok (.invokestatic 270, 3) := by decide +kernel
theorem dX12_canWalk_29 : decode cX12_canWalk 29 = .ok (.ifCond .eq 7, 3) := by decide +kernel
theorem dX12_canWalk_32 : decode cX12_canWalk 32 = .ok (.iconst 1, 1) := by decide +kernel
theorem dX12_canWalk_33 : decode cX12_canWalk 33 = .ok (.goto 4, 3) := by decide +kernel
theorem dX12_canWalk_36 : decode cX12_canWalk 36 = .ok (.iconst 0, 1) := by decide +kernel
theorem dX12_canWalk_37 : decode cX12_canWalk 37 = .ok (.ireturn, 1) := by decide +kernel
theorem dX12_walk_0 : decode cX12_walk 0 = .ok (.aload_n 0, 1) := by decide +kernel
theorem dX12_walk_1 : decode cX12_walk 1 = .ok (.iload_n 1, 1) := by decide +kernel
theorem dX12_walk_2 : decode cX12_walk 2 = .ok (.iload_n 2, 1) := by decide +kernel
theorem dX12_walk_3 : decode cX12_walk 3 = .ok (.invokevirtual 382, 3) := by decide +kernel
theorem dX12_walk_6 : decode cX12_walk 6 = .ok (.ifCond .ne 5, 3) := by decide +kernel
theorem dX12_walk_9 : decode cX12_walk 9 = .ok (.iconst 0, 1) := by decide +kernel
theorem dX12_walk_10 : decode cX12_walk 10 = .ok (.ireturn, 1) := by decide +kernel
theorem dX12_walk_11 : decode cX12_walk 11 = .ok (.aload_n 0, 1) := by decide +kernel
theorem dX12_walk_12 : decode cX12_walk 12 = .ok (.invokevirtual 385, 3) := by decide +kernel
theorem dX12_walk_15 : decode cX12_walk 15 = .ok (.aload_n 0, 1) := by decide +kernel
theorem dX12_walk_16 : decode cX12_walk 16 = .ok (.iload_n 1, 1) := by decide +kernel
theorem dX12_walk_17 : decode cX12_walk 17 = .ok (.iconst 0, 1) := by decide +kernel
theorem dX12_walk_18 : decode cX12_walk 18 = .ok (.iload_n 2, 1) := by decide +kernel
theorem dX12_walk_19 : decode cX12_walk 19 = .ok (.invokevirtual 108, 3) := by decide +kernel
theorem dX12_walk_22 : decode cX12_walk 22 = .ok (.iconst 1, 1) := by decide +kernel
theorem dX12_walk_23 : decode cX12_walk 23 = .ok (.ireturn, 1) := by decide +kernel
theorem dX12_hat_0 : decode cX12_hat 0 = .ok (.aload_n 0, 1) := by decide +kernel
theorem dX12_hat_1 : decode cX12_hat 1 = .ok (.iload_n 1, 1) := by decide +kernel
theorem dX12_hat_2 : decode cX12_hat 2 = .ok (.invokevirtual 379, 3) := by decide +kernel
theorem dX12_hat_5 : decode cX12_hat 5 = .ok (.ifCond .eq 22, 3) := by decide +kernel
theorem dX12_hat_8 : decode cX12_hat 8 = .ok (.aload_n 0, 1) := by decide +kernel
theorem dX12_hat_9 : decode cX12_hat 9 = .ok (.iload_n 1, 1) := by decide +kernel
theorem dX12_hat_10 : decode cX12_hat 10 = .ok (.iconst 1, 1) := by decide +kernel
theorem dX12_hat_11 : decode cX12_hat 11 = .ok (.invokevirtual 105, 3) := by decide +kernel
theorem dX12_hat_14 : decode cX12_hat 14 = .ok (.iconst 1, 1) := by decide +kernel
theorem dX12_hat_15 : decode cX12_hat 15 = .ok (.if_icmp .ne 7, 3) := by decide +kernel
theorem dX12_hat_18 : decode cX12_hat 18 = .ok (.iconst 1, 1) := by decide +kernel
theorem dX12_hat_19 : decode cX12_hat 19 = .ok (.goto 4, 3) := by decide +kernel
theorem dX12_hat_22 : decode cX12_hat 22 = .ok (.iconst 0, 1) := by decide +kernel
theorem dX12_hat_23 : decode cX12_hat 23 = .ok (.iload_n 2, 1) := by decide +kernel
theorem dX12_hat_24 : decode cX12_hat 24 = .ok (.if_icmp .ne 5, 3) := by decide +kernel
theorem dX12_hat_27 : decode cX12_hat 27 = .ok (.iconst 0, 1) := by decide +kernel
theorem dX12_hat_28 : decode cX12_hat 28 = .ok (.ireturn, 1) := by decide +kernel
theorem dX12_hat_29 : decode cX12_hat 29 = .ok (.aload_n 0, 1) := by decide +kernel
theorem dX12_hat_30 : decode cX12_hat 30 = .ok (.invokevirtual 385, 3) := by decide +kernel
theorem dX12_hat_33 : decode cX12_hat 33 = .ok (.aload_n 0, 1) := by decide +kernel
theorem dX12_hat_34 : decode cX12_hat 34 = .ok (.iload_n 1, 1) := by decide +kernel
theorem dX12_hat_35 : decode cX12_hat 35 = .ok (.iconst 1, 1) := by decide +kernel
theorem dX12_hat_36 : decode cX12_hat 36 = .ok (.iload_n 2, 1) := by decide +kernel
theorem dX12_hat_37 : decode cX12_hat 37 = .ok (.ifCond .eq 7, 3) := by decide +kernel
theorem dX12_hat_40 : decode cX12_hat 40 = .ok (.iconst 1, 1) := by decide +kernel
theorem dX12_hat_41 : decode cX12_hat 41 = .ok (.goto 4, 3) := by decide +kernel
theorem dX12_hat_44 : decode cX12_hat 44 = .ok (.iconst 0, 1) := by decide +kernel
theorem dX12_hat_45 : decode cX12_hat 45 = .ok (.invokevirtual 108, 3) := by decide +kernel
theorem dX12_hat_48 : decode cX12_hat 48 = .ok (.iconst 1, 1) := by decide +kernel
theorem dX12_hat_49 : decode cX12_hat 49 = .ok (.ireturn, 1) := by decide +kernel
theorem dX12_draw_0 : decode cX12_draw 0 = .ok (.aload_n 0, 1) := by decide +kernel
theorem dX12_draw_1 : decode cX12_draw 1 = .ok (.getfield 7, 3) := by decide +kernel
theorem dX12_draw_4 : decode cX12_draw 4 = .ok (.iconst 0, 1) := by decide +kernel
theorem dX12_draw_5 : decode cX12_draw 5 = .ok (.iaload, 1) := by decide +kernel
theorem dX12_draw_6 : decode cX12_draw 6 = .ok (.ifCond .ne 5, 3) := by decide +kernel
theorem dX12_draw_9 : decode cX12_draw 9 = .ok (.iconst (-1), 1) := by decide +kernel
theorem dX12_draw_10 : decode cX12_draw 10 = .ok (.ireturn, 1) := by decide +kernel
theorem dX12_draw_11 : decode cX12_draw 11 = .ok (.aload_n 0, 1) := by decide +kernel
theorem dX12_draw_12 : decode cX12_draw 12 = .ok (.invokevirtual 385, 3) := by decide +kernel
theorem dX12_draw_15 : decode cX12_draw 15 = .ok (.aload_n 0, 1) := by decide +kernel
theorem dX12_draw_16 : decode cX12_draw 16 = .ok (.aload_n 0, 1) := by decide +kernel
theorem dX12_draw_17 : decode cX12_draw 17 = .ok (.getfield 7, 3) := by decide +kernel
theorem dX12_draw_20 : decode cX12_draw 20 = .ok (.iconst 0, 1) := by decide +kernel
theorem dX12_draw_21 : decode cX12_draw 21 = .ok (.iaload, 1) := by decide +kernel
theorem dX12_draw_22 : decode cX12_draw 22 = .ok (.invokevirtual 367, 3) := by decide +kernel
theorem dX12_draw_25 : decode cX12_draw 25 = .ok (.istore_n 1, 1) := by decide +kernel
theorem dX12_draw_26 : decode cX12_draw 26 = .ok (.iconst 0, 1) := by decide +kernel
theorem dX12_draw_27 : decode cX12_draw 27 = .ok (.istore_n 2, 1) := by decide +kernel
theorem dX12_draw_28 : decode cX12_draw 28 = .ok (.iload_n 2, 1) := by decide +kernel
theorem dX12_draw_29 : decode cX12_draw 29 = .ok (.aload_n 0, 1) := by decide +kernel
theorem dX12_draw_30 : decode cX12_draw 30 = .ok (.getfield 7, 3) := by decide +kernel
theorem dX12_draw_33 : decode cX12_draw 33 = .ok (.iconst 0, 1) := by decide +kernel
theorem dX12_draw_34 : decode cX12_draw 34 = .ok (.iaload, 1) := by decide +kernel
theorem dX12_draw_35 : decode cX12_draw 35 = .ok (.if_icmp .ge 25, 3) := by decide +kernel
theorem dX12_draw_38 : decode cX12_draw 38 = .ok (.aload_n 0, 1) := by decide +kernel
theorem dX12_draw_39 : decode cX12_draw 39 = .ok (.iload_n 2, 1) := by decide +kernel
theorem dX12_draw_40 : decode cX12_draw 40 = .ok (.iconst 1, 1) := by decide +kernel
theorem dX12_draw_41 : decode cX12_draw 41 = .ok (.iload_n 2, 1) := by decide +kernel
theorem dX12_draw_42 : decode cX12_draw 42 = .ok (.iload_n 1, 1) := by decide +kernel
theorem dX12_draw_43 : decode cX12_draw 43 = .ok (.if_icmp .ne 7, 3) := by decide +kernel
theorem dX12_draw_46 : decode cX12_draw 46 = .ok (.iconst 1, 1) := by decide +kernel
theorem dX12_draw_47 : decode cX12_draw 47 = .ok (.goto 4, 3) := by decide +kernel
theorem dX12_draw_50 : decode cX12_draw 50 = .ok (.iconst 0, 1) := by decide +kernel
theorem dX12_draw_51 : decode cX12_draw 51 = .ok (.invokevirtual 108, 3) := by decide +kernel
theorem dX12_draw_54 : decode cX12_draw 54 = .ok (.iinc 2 1, 3) := by decide +kernel
theorem dX12_draw_57 : decode cX12_draw 57 = .ok (.goto (-29), 3) := by decide +kernel
theorem dX12_draw_60 : decode cX12_draw 60 = .ok (.iload_n 1, 1) := by decide +kernel
theorem dX12_draw_61 : decode cX12_draw 61 = .ok (.ireturn, 1) := by decide +kernel
theorem dX12_arePassed_0 : decode cX12_arePassed 0 = .ok (.aload_n 0, 1) := by decide +kernel
theorem dX12_arePassed_1 : decode cX12_arePassed 1 = .ok (.iconst 0, 1) := by decide +kernel
theorem dX12_arePassed_2 : decode cX12_arePassed 2 = .ok (.putfield 355, 3) := by decide +kernel
theorem dX12_arePassed_5 : decode cX12_arePassed 5 = .ok (.iconst 0, 1) := by decide +kernel
theorem dX12_arePassed_6 : decode cX12_arePassed 6 = .ok (.istore_n 2, 1) := by decide +kernel
theorem dX12_arePassed_7 : decode cX12_arePassed 7 = .ok (.iload_n 2, 1) := by decide +kernel
theorem dX12_arePassed_8 : decode cX12_arePassed 8 = .ok (.iload_n 1, 1) := by decide +kernel
theorem dX12_arePassed_9 : decode cX12_arePassed 9 = .ok (.if_icmp .ge 32, 3) := by decide +kernel
theorem dX12_arePassed_12 : decode cX12_arePassed 12 = .ok (.aload_n 0, 1) := by decide +kernel
theorem dX12_arePassed_13 : decode cX12_arePassed 13 = .ok (.getfield 7, 3) := by decide +kernel
theorem dX12_arePassed_16 : decode cX12_arePassed 16 = .ok (.bipush 6, 2) := by decide +kernel
theorem dX12_arePassed_18 : decode cX12_arePassed 18 = .ok (.iaload, 1) := by decide +kernel
theorem dX12_arePassed_19 : decode cX12_arePassed 19 = .ok (.sipush 9999, 3) := by decide +kernel
theorem dX12_arePassed_22 : decode cX12_arePassed 22 = .ok (.if_icmp .ne 5, 3) := by decide +kernel
theorem dX12_arePassed_25 : decode cX12_arePassed 25 = .ok (.iconst 0, 1) := by decide +kernel
theorem dX12_arePassed_26 : decode cX12_arePassed 26 = .ok (.ireturn, 1) := by decide +kernel
theorem dX12_arePassed_27 : decode cX12_arePassed 27 = .ok (.aload_n 0, 1) := by decide +kernel
theorem dX12_arePassed_28 : decode cX12_arePassed 28 = .ok (.invokevirtual 385, 3) := by decide +kernel
theorem dX12_arePassed_31 : decode cX12_arePassed 31 = .ok (.aload_n 0, 1) := by decide +kernel
theorem dX12_arePassed_32 : decode cX12_arePassed 32 = .ok (.invokevirtual 388, 3) := by decide +kernel
theorem dX12_arePassed_35 : decode cX12_arePassed 35 = .ok (.iinc 2 1, 3) := by decide +kernel
theorem dX12_arePassed_38 : decode cX12_arePassed 38 = .ok (.goto (-31), 3) := by decide +kernel
theorem dX12_arePassed_41 : decode cX12_arePassed 41 = .ok (.iconst 1, 1) := by decide +kernel
theorem dX12_arePassed_42 : decode cX12_arePassed 42 = .ok (.ireturn, 1) := by decide +kernel
theorem dX12_minute_0 : decode cX12_minute 0 = .ok (.iload_n 1, 1) := by decide +kernel
theorem dX12_minute_1 : decode cX12_minute 1 = .ok (.iconst 1, 1) := by decide +kernel
theorem dX12_minute_2 : decode cX12_minute 2 = .ok (.bipush 60, 2) := by decide +kernel
theorem dX12_minute_4 : decode cX12_minute 4 = .ok (.invokestatic 87, 3) := by decide +kernel
theorem dX12_minute_7 : decode cX12_minute 7 = .ok (.ifCond .eq 33, 3) := by decide +kernel
theorem dX12_minute_10 : decode cX12_minute 10 = .ok (.aload_n 0, 1) := by decide +kernel
theorem dX12_minute_11 : decode cX12_minute 11 = .ok (.getfield 7, 3) := by decide +kernel
theorem dX12_minute_14 : decode cX12_minute 14 = .ok (.bipush 6, 2) := by decide +kernel
theorem dX12_minute_16 : decode cX12_minute 16 = .ok (.iaload, 1) := by decide +kernel
theorem dX12_minute_17 : decode cX12_minute 17 = .ok (.iload_n 1, 1) := by decide +kernel
theorem dX12_minute_18 : decode cX12_minute 18 = .ok (.iadd, 1) := by decide +kernel
theorem dX12_minute_19 : decode cX12_minute 19 = .ok (.sipush 9999, 3) := by decide +kernel
theorem dX12_minute_22 : decode cX12_minute 22 = .ok (.if_icmp .gt 18, 3) := by decide +kernel
theorem dX12_minute_25 : decode cX12_minute 25 = .ok (.aload_n 0, 1) := by decide +kernel
theorem dX12_minute_26 : decode cX12_minute 26 = .ok (.iload_n 1, 1) := by decide +kernel
theorem dX12_minute_27 : decode cX12_minute 27 = .ok (.invokevirtual 391, 3) := by decide +kernel
theorem dX12_minute_30 : decode cX12_minute 30 = .ok (.ifCond .eq 10, 3) := by decide +kernel
theorem dX12_minute_33 : decode cX12_minute 33 = .ok (.aload_n 0, 1) := by decide +kernel
theorem dX12_minute_34 : decode cX12_minute 34 = .ok (.getfield 355, 3) := by decide +kernel
theorem dX12_minute_37 : decode cX12_minute 37 = .ok (.goto 4, 3) := by decide +kernel
theorem dX12_minute_40 : decode cX12_minute 40 = .ok (.iconst (-1), 1) := by decide +kernel
theorem dX12_minute_41 : decode cX12_minute 41 = .ok (.ireturn, 1) := by decide +kernel
theorem dX12_isPlayed_0 : decode cX12_isPlayed 0 = .ok (.aload_n 0, 1) := by decide +kernel
theorem dX12_isPlayed_1 : decode cX12_isPlayed 1 = .ok (.getfield 16, 3) := by decide +kernel
theorem dX12_isPlayed_4 : decode cX12_isPlayed 4 = .ok (.iload_n 1, 1) := by decide +kernel
theorem dX12_isPlayed_5 : decode cX12_isPlayed 5 = .ok (.iconst 1, 1) := by decide +kernel
theorem dX12_isPlayed_6 : decode cX12_isPlayed 6 = .ok (.iadd, 1) := by decide +kernel
theorem dX12_isPlayed_7 : decode cX12_isPlayed 7 = .ok (.iaload, 1) := by decide +kernel
theorem dX12_isPlayed_8 : decode cX12_isPlayed 8 = .ok (.istore_n 2, 1) := by decide +kernel
theorem dX12_isPlayed_9 : decode cX12_isPlayed 9 = .ok (.aload_n 0, 1) := by decide +kernel
theorem dX12_isPlayed_10 : decode cX12_isPlayed 10 = .ok (.getfield 16, 3) := by decide +kernel
theorem dX12_isPlayed_13 : decode cX12_isPlayed 13 = .ok (.iload_n 1, 1) := by decide +kernel
theorem dX12_isPlayed_14 : decode cX12_isPlayed 14 = .ok (.iconst 2, 1) := by decide +kernel
theorem dX12_isPlayed_15 : decode cX12_isPlayed 15 = .ok (.iadd, 1) := by decide +kernel
theorem dX12_isPlayed_16 : decode cX12_isPlayed 16 = .ok (.iaload, 1) := by decide +kernel
theorem dX12_isPlayed_17 : decode cX12_isPlayed 17 = .ok (.istore_n 3, 1) := by decide +kernel
theorem dX12_isPlayed_18 : decode cX12_isPlayed 18 = .ok (.aload_n 0, 1) := by decide +kernel
theorem dX12_isPlayed_19 : decode cX12_isPlayed 19 = .ok (.getfield 16, 3) := by decide +kernel
theorem dX12_isPlayed_22 : decode cX12_isPlayed 22 = .ok (.iload_n 1, 1) := by decide +kernel
theorem dX12_isPlayed_23 : decode cX12_isPlayed 23 = .ok (.iaload, 1) := by decide +kernel
theorem dX12_isPlayed_24 : decode cX12_isPlayed 24 = .ok (.tableswitch 117 2 9 #[48, 63, 70, 77, 84, 91, 98, 111], 48) := by decide +kernel
theorem dX12_isPlayed_72 : decode cX12_isPlayed 72 = .ok (.aload_n 0, 1) := by decide +kernel
theorem dX12_isPlayed_73 : decode cX12_isPlayed 73 = .ok (.iload_n 2, 1) := by decide +kernel
theorem dX12_isPlayed_74 : decode cX12_isPlayed 74 = .ok (.iconst 1, 1) := by decide +kernel
theorem dX12_isPlayed_75 : decode cX12_isPlayed 75 = .ok (.invokevirtual 394, 3) := by decide +kernel
theorem dX12_isPlayed_78 : decode cX12_isPlayed 78 = .ok (.ifCond .lt 7, 3) := by decide +kernel
theorem dX12_isPlayed_81 : decode cX12_isPlayed 81 = .ok (.iconst 1, 1) := by decide +kernel
theorem dX12_isPlayed_82 : decode cX12_isPlayed 82 = .ok (.goto 4, 3) := by decide +kernel
theorem dX12_isPlayed_85 : decode cX12_isPlayed 85 = .ok (.iconst 0, 1) := by decide +kernel
theorem dX12_isPlayed_86 : decode cX12_isPlayed 86 = .ok (.ireturn, 1) := by decide +kernel
theorem dX12_isPlayed_87 : decode cX12_isPlayed 87 = .ok (.aload_n 0, 1) := by decide +kernel
theorem dX12_isPlayed_88 : decode cX12_isPlayed 88 = .ok (.iload_n 3, 1) := by decide +kernel
theorem dX12_isPlayed_89 : decode cX12_isPlayed 89 = .ok (.iload_n 2, 1) := by decide +kernel
theorem dX12_isPlayed_90 : decode cX12_isPlayed 90 = .ok (.invokevirtual 398, 3) := by decide +kernel
theorem dX12_isPlayed_93 : decode cX12_isPlayed 93 = .ok (.ireturn, 1) := by decide +kernel
theorem dX12_isPlayed_94 : decode cX12_isPlayed 94 = .ok (.aload_n 0, 1) := by decide +kernel
theorem dX12_isPlayed_95 : decode cX12_isPlayed 95 = .ok (.iload_n 2, 1) := by decide +kernel
theorem dX12_isPlayed_96 : decode cX12_isPlayed 96 = .ok (.iconst 1, 1) := by decide +kernel
theorem dX12_isPlayed_97 : decode cX12_isPlayed 97 = .ok (.invokevirtual 401, 3) := by decide +kernel
theorem dX12_isPlayed_100 : decode cX12_isPlayed 100 = .ok (.ireturn, 1) := by decide +kernel
theorem dX12_isPlayed_101 : decode cX12_isPlayed 101 = .ok (.aload_n 0, 1) := by decide +kernel
theorem dX12_isPlayed_102 : decode cX12_isPlayed 102 = .ok (.iload_n 2, 1) := by decide +kernel
theorem dX12_isPlayed_103 : decode cX12_isPlayed 103 = .ok (.iload_n 3, 1) := by decide +kernel
theorem dX12_isPlayed_104 : decode cX12_isPlayed 104 = .ok (.invokevirtual 405, 3) := by decide +kernel
theorem dX12_isPlayed_107 : decode cX12_isPlayed 107 = .ok (.ireturn, 1) := by decide +kernel
theorem dX12_isPlayed_108 : decode cX12_isPlayed 108 = .ok (.aload_n 0, 1) := by decide +kernel
theorem dX12_isPlayed_109 : decode cX12_isPlayed 109 = .ok (.iload_n 2, 1) := by decide +kernel
theorem dX12_isPlayed_110 : decode cX12_isPlayed 110 = .ok (.iconst 0, 1) := by decide +kernel
theorem dX12_isPlayed_111 : decode cX12_isPlayed 111 = .ok (.invokevirtual 408, 3) := by decide +kernel
theorem dX12_isPlayed_114 : decode cX12_isPlayed 114 = .ok (.ireturn, 1) := by decide +kernel
theorem dX12_isPlayed_115 : decode cX12_isPlayed 115 = .ok (.aload_n 0, 1) := by decide +kernel
theorem dX12_isPlayed_116 : decode cX12_isPlayed 116 = .ok (.iload_n 2, 1) := by decide +kernel
theorem dX12_isPlayed_117 : decode cX12_isPlayed 117 = .ok (.iconst 1, 1) := by decide +kernel
theorem dX12_isPlayed_118 : decode cX12_isPlayed 118 = .ok (.invokevirtual 408, 3) := by decide +kernel
theorem dX12_isPlayed_121 : decode cX12_isPlayed 121 = .ok (.ireturn, 1) := by decide +kernel
theorem dX12_isPlayed_122 : decode cX12_isPlayed 122 = .ok (.aload_n 0, 1) := by decide +kernel
theorem dX12_isPlayed_123 : decode cX12_isPlayed 123 = .ok (.invokevirtual 411, 3) := by decide +kernel
theorem dX12_isPlayed_126 : decode cX12_isPlayed 126 = .ok (.ifCond .lt 7, 3) := by decide +kernel
theorem dX12_isPlayed_129 : decode cX12_isPlayed 129 = .ok (.iconst 1, 1) := by decide +kernel
theorem dX12_isPlayed_130 : decode cX12_isPlayed 130 = .ok (.goto 4, 3) := by decide +kernel
theorem dX12_isPlayed_133 : decode cX12_isPlayed 133 = .ok (.iconst 0, 1) := by decide +kernel
theorem dX12_isPlayed_134 : decode cX12_isPlayed 134 = .ok (.ireturn, 1) := by decide +kernel
theorem dX12_isPlayed_135 : decode cX12_isPlayed 135 = .ok (.aload_n 0, 1) := by decide +kernel
theorem dX12_isPlayed_136 : decode cX12_isPlayed 136 = .ok (.iload_n 2, 1) := by decide +kernel
theorem dX12_isPlayed_137 : decode cX12_isPlayed 137 = .ok (.invokevirtual 391, 3) := by decide +kernel
theorem dX12_isPlayed_140 : decode cX12_isPlayed 140 = .ok (.ireturn, 1) := by decide +kernel
theorem dX12_isPlayed_141 : decode cX12_isPlayed 141 = .ok (.iconst 1, 1) := by decide +kernel
theorem dX12_isPlayed_142 : decode cX12_isPlayed 142 = .ok (.ireturn, 1) := by decide +kernel
theorem dX12_played_0 : decode cX12_played 0 = .ok (.iload_n 1, 1) := by decide +kernel
theorem dX12_played_1 : decode cX12_played 1 = .ok (.iconst 0, 1) := by decide +kernel
theorem dX12_played_2 : decode cX12_played 2 = .ok (.aload_n 0, 1) := by decide +kernel
theorem dX12_played_3 : decode cX12_played 3 = .ok (.getfield 7, 3) := by decide +kernel
theorem dX12_played_6 : decode cX12_played 6 = .ok (.iconst 1, 1) := by decide +kernel
theorem dX12_played_7 : decode cX12_played 7 = .ok (.iaload, 1) := by decide +kernel
theorem dX12_played_8 : decode cX12_played 8 = .ok (.iconst 1, 1) := by decide +kernel
theorem dX12_played_9 : decode cX12_played 9 = .ok (.isub, 1) := by decide +kernel
theorem dX12_played_10 : decode cX12_played 10 = .ok (.invokestatic 87, 3) := by decide +kernel
theorem dX12_played_13 : decode cX12_played 13 = .ok (.ifCond .ne 6, 3) := by decide +kernel
theorem dX12_played_16 : decode cX12_played 16 = .ok (.bipush (-2), 2) := by decide +kernel
theorem dX12_played_18 : decode cX12_played 18 = .ok (.ireturn, 1) := by decide +kernel
theorem dX12_played_19 : decode cX12_played 19 = .ok (.iconst 0, 1) := by decide +kernel
theorem dX12_played_20 : decode cX12_played 20 = .ok (.istore_n 2, 1) := by decide +kernel
theorem dX12_played_21 : decode cX12_played 21 = .ok (.iload_n 2, 1) := by decide +kernel
theorem dX12_played_22 : decode cX12_played 22 = .ok (.aload_n 0, 1) := by decide +kernel
theorem dX12_played_23 : decode cX12_played 23 = .ok (.getfield 16, 3) := by decide +kernel
theorem dX12_played_26 : decode cX12_played 26 = .ok (.sipush 681, 3) := by decide +kernel
theorem dX12_played_29 : decode cX12_played 29 = .ok (.iload_n 1, 1) := by decide +kernel
theorem dX12_played_30 : decode cX12_played 30 = .ok (.imul, 1) := by decide +kernel
theorem dX12_played_31 : decode cX12_played 31 = .ok (.iaload, 1) := by decide +kernel
theorem dX12_played_32 : decode cX12_played 32 = .ok (.if_icmp .ge 29, 3) := by decide +kernel
theorem dX12_played_35 : decode cX12_played 35 = .ok (.aload_n 0, 1) := by decide +kernel
theorem dX12_played_36 : decode cX12_played 36 = .ok (.sipush 681, 3) := by decide +kernel
theorem dX12_played_39 : decode cX12_played 39 = .ok (.iload_n 1, 1) := by decide +kernel
theorem dX12_played_40 : decode cX12_played 40 = .ok (.imul, 1) := by decide +kernel
theorem dX12_played_41 : decode cX12_played 41 = .ok (.iconst 1, 1) := by decide +kernel
theorem dX12_played_42 : decode cX12_played 42 = .ok (.iadd, 1) := by decide +kernel
theorem dX12_played_43 : decode cX12_played 43 = .ok (.iconst 3, 1) := by decide +kernel
theorem dX12_played_44 : decode cX12_played 44 = .ok (.iload_n 2, 1) := by decide +kernel
theorem dX12_played_45 : decode cX12_played 45 = .ok (.imul, 1) := by decide +kernel
theorem dX12_played_46 : decode cX12_played 46 = .ok (.iadd, 1) := by decide +kernel
theorem dX12_played_47 : decode cX12_played 47 = .ok (.invokevirtual 414, 3) := by decide +kernel
theorem dX12_played_50 : decode cX12_played 50 = .ok (.ifCond .ne 5, 3) := by decide +kernel
theorem dX12_played_53 : decode cX12_played 53 = .ok (.iload_n 2, 1) := by decide +kernel
theorem dX12_played_54 : decode cX12_played 54 = .ok (.ireturn, 1) := by decide +kernel
theorem dX12_played_55 : decode cX12_played 55 = .ok (.iinc 2 1, 3) := by decide +kernel
theorem dX12_played_58 : decode cX12_played 58 = .ok (.goto (-37), 3) := by decide +kernel
theorem dX12_played_61 : decode cX12_played 61 = .ok (.iconst (-1), 1) := by decide +kernel
theorem dX12_played_62 : decode cX12_played 62 = .ok (.ireturn, 1) := by decide +kernel
theorem dX12_happens_0 : decode cX12_happens 0 = .ok (.iload_n 1, 1) := by decide +kernel
theorem dX12_happens_1 : decode cX12_happens 1 = .ok (.bipush 6, 2) := by decide +kernel
theorem dX12_happens_3 : decode cX12_happens 3 = .ok (.irem, 1) := by decide +kernel
theorem dX12_happens_4 : decode cX12_happens 4 = .ok (.iconst 2, 1) := by decide +kernel
theorem dX12_happens_5 : decode cX12_happens 5 = .ok (.if_icmp .le 21, 3) := by decide +kernel
theorem dX12_happens_8 : decode cX12_happens 8 = .ok (.aload_n 0, 1) := by decide +kernel
theorem dX12_happens_9 : decode cX12_happens 9 = .ok (.getfield 7, 3) := by decide +kernel
theorem dX12_happens_12 : decode cX12_happens 12 = .ok (.bipush 6, 2) := by decide +kernel
theorem dX12_happens_14 : decode cX12_happens 14 = .ok (.iaload, 1) := by decide +kernel
theorem dX12_happens_15 : decode cX12_happens 15 = .ok (.sipush 9999, 3) := by decide +kernel
theorem dX12_happens_18 : decode cX12_happens 18 = .ok (.if_icmp .ge 7, 3) := by decide +kernel
theorem dX12_happens_21 : decode cX12_happens 21 = .ok (.aload_n 0, 1) := by decide +kernel
theorem dX12_happens_22 : decode cX12_happens 22 = .ok (.invokevirtual 388, 3) := by decide +kernel
theorem dX12_happens_25 : decode cX12_happens 25 = .ok (.return_, 1) := by decide +kernel
theorem dX12_happens_26 : decode cX12_happens 26 = .ok (.aload_n 0, 1) := by decide +kernel
theorem dX12_happens_27 : decode cX12_happens 27 = .ok (.getfield 7, 3) := by decide +kernel
theorem dX12_happens_30 : decode cX12_happens 30 = .ok (.iconst 0, 1) := by decide +kernel
theorem dX12_happens_31 : decode cX12_happens 31 = .ok (.iaload, 1) := by decide +kernel
theorem dX12_happens_32 : decode cX12_happens 32 = .ok (.ifCond .ne 4, 3) := by decide +kernel
theorem dX12_happens_35 : decode cX12_happens 35 = .ok (.return_, 1) := by decide +kernel
theorem dX12_happens_36 : decode cX12_happens 36 = .ok (.iload_n 1, 1) := by decide +kernel
theorem dX12_happens_37 : decode cX12_happens 37 = .ok (.aload_n 0, 1) := by decide +kernel
theorem dX12_happens_38 : decode cX12_happens 38 = .ok (.getfield 7, 3) := by decide +kernel
theorem dX12_happens_41 : decode cX12_happens 41 = .ok (.iconst 0, 1) := by decide +kernel
theorem dX12_happens_42 : decode cX12_happens 42 = .ok (.iaload, 1) := by decide +kernel
theorem dX12_happens_43 : decode cX12_happens 43 = .ok (.irem, 1) := by decide +kernel
theorem dX12_happens_44 : decode cX12_happens 44 = .ok (.istore_n 2, 1) := by decide +kernel
theorem dX12_happens_45 : decode cX12_happens 45 = .ok (.iload_n 1, 1) := by decide +kernel
theorem dX12_happens_46 : decode cX12_happens 46 = .ok (.bipush 6, 2) := by decide +kernel
theorem dX12_happens_48 : decode cX12_happens 48 = .ok (.irem, 1) := by decide +kernel
theorem dX12_happens_49 : decode cX12_happens 49 = .ok (.iconst 2, 1) := by decide +kernel
theorem dX12_happens_50 : decode cX12_happens 50 = .ok (.if_icmp .ne 21, 3) := by decide +kernel
theorem dX12_happens_53 : decode cX12_happens 53 = .ok (.aload_n 0, 1) := by decide +kernel
theorem dX12_happens_54 : decode cX12_happens 54 = .ok (.iload_n 2, 1) := by decide +kernel
theorem dX12_happens_55 : decode cX12_happens 55 = .ok (.iconst 1, 1) := by decide +kernel
theorem dX12_happens_56 : decode cX12_happens 56 = .ok (.iload_n 1, 1) := by decide +kernel
theorem dX12_happens_57 : decode cX12_happens 57 = .ok (.iconst 4, 1) := by decide +kernel
theorem dX12_happens_58 : decode cX12_happens 58 = .ok (.irem, 1) := by decide +kernel
theorem dX12_happens_59 : decode cX12_happens 59 = .ok (.ifCond .le 7, 3) := by decide +kernel
theorem dX12_happens_62 : decode cX12_happens 62 = .ok (.iconst 1, 1) := by decide +kernel
theorem dX12_happens_63 : decode cX12_happens 63 = .ok (.goto 4, 3) := by decide +kernel
theorem dX12_happens_66 : decode cX12_happens 66 = .ok (.iconst 0, 1) := by decide +kernel
theorem dX12_happens_67 : decode cX12_happens 67 = .ok (.invokevirtual 108, 3) := by decide +kernel
theorem dX12_happens_70 : decode cX12_happens 70 = .ok (.return_, 1) := by decide +kernel
theorem dX12_happens_71 : decode cX12_happens 71 = .ok (.aload_n 0, 1) := by decide +kernel
theorem dX12_happens_72 : decode cX12_happens 72 = .ok (.iload_n 2, 1) := by decide +kernel
theorem dX12_happens_73 : decode cX12_happens 73 = .ok (.iconst 0, 1) := by decide +kernel
theorem dX12_happens_74 : decode cX12_happens 74 = .ok (.invokevirtual 105, 3) := by decide +kernel
theorem dX12_happens_77 : decode cX12_happens 77 = .ok (.iload_n 1, 1) := by decide +kernel
theorem dX12_happens_78 : decode cX12_happens 78 = .ok (.bipush 6, 2) := by decide +kernel
theorem dX12_happens_80 : decode cX12_happens 80 = .ok (.idiv, 1) := by decide +kernel
theorem dX12_happens_81 : decode cX12_happens 81 = .ok (.iconst 4, 1) := by decide +kernel
theorem dX12_happens_82 : decode cX12_happens 82 = .ok (.irem, 1) := by decide +kernel
theorem dX12_happens_83 : decode cX12_happens 83 = .ok (.invokestatic 95, 3) := by decide +kernel
theorem dX12_happens_86 : decode cX12_happens 86 = .ok (.istore_n 3, 1) := by decide +kernel
theorem dX12_happens_87 : decode cX12_happens 87 = .ok (.aload_n 0, 1) := by decide +kernel
theorem dX12_happens_88 : decode cX12_happens 88 = .ok (.iload_n 3, 1) := by decide +kernel
theorem dX12_happens_89 : decode cX12_happens 89 = .ok (.invokevirtual 99, 3) := by decide +kernel
theorem dX12_happens_92 : decode cX12_happens 92 = .ok (.ifCond .eq 10, 3) := by decide +kernel
theorem dX12_happens_95 : decode cX12_happens 95 = .ok (.aload_n 0, 1) := by decide +kernel
theorem dX12_happens_96 : decode cX12_happens 96 = .ok (.iload_n 2, 1) := by decide +kernel
theorem dX12_happens_97 : decode cX12_happens 97 = .ok (.iconst 0, 1) := by decide +kernel
theorem dX12_happens_98 : decode cX12_happens 98 = .ok (.iload_n 3, 1) := by decide +kernel
theorem dX12_happens_99 : decode cX12_happens 99 = .ok (.invokevirtual 108, 3) := by decide +kernel
theorem dX12_happens_102 : decode cX12_happens 102 = .ok (.return_, 1) := by decide +kernel
theorem dX12_years_0 : decode cX12_years 0 = .ok (.iload_n 1, 1) := by decide +kernel
theorem dX12_years_1 : decode cX12_years 1 = .ok (.iconst 0, 1) := by decide +kernel
theorem dX12_years_2 : decode cX12_years 2 = .ok (.sipush 9999, 3) := by decide +kernel
theorem dX12_years_5 : decode cX12_years 5 = .ok (.invokestatic 87, 3) := by decide +kernel
theorem dX12_years_8 : decode cX12_years 8 = .ok (.ifCond .eq 13, 3) := by decide +kernel
theorem dX12_years_11 : decode cX12_years 11 = .ok (.iload_n 2, 1) := by decide +kernel
theorem dX12_years_12 : decode cX12_years 12 = .ok (.iconst 1, 1) := by decide +kernel
theorem dX12_years_13 : decode cX12_years 13 = .ok (.bipush 40, 2) := by decide +kernel
theorem dX12_years_15 : decode cX12_years 15 = .ok (.invokestatic 87, 3) := by decide +kernel
theorem dX12_years_18 : decode cX12_years 18 = .ok (.ifCond .ne 5, 3) := by decide +kernel
theorem dX12_years_21 : decode cX12_years 21 = .ok (.iconst (-1), 1) := by decide +kernel
theorem dX12_years_22 : decode cX12_years 22 = .ok (.ireturn, 1) := by decide +kernel
theorem dX12_years_23 : decode cX12_years 23 = .ok (.aload_n 0, 1) := by decide +kernel
theorem dX12_years_24 : decode cX12_years 24 = .ok (.invokevirtual 385, 3) := by decide +kernel
theorem dX12_years_27 : decode cX12_years 27 = .ok (.aload_n 0, 1) := by decide +kernel
theorem dX12_years_28 : decode cX12_years 28 = .ok (.getfield 7, 3) := by decide +kernel
theorem dX12_years_31 : decode cX12_years 31 = .ok (.bipush 8, 2) := by decide +kernel
theorem dX12_years_33 : decode cX12_years 33 = .ok (.iload_n 1, 1) := by decide +kernel
theorem dX12_years_34 : decode cX12_years 34 = .ok (.iconst 2, 1) := by decide +kernel
theorem dX12_years_35 : decode cX12_years 35 = .ok (.imul, 1) := by decide +kernel
theorem dX12_years_36 : decode cX12_years 36 = .ok (.sipush 241, 3) := by decide +kernel
theorem dX12_years_39 : decode cX12_years 39 = .ok (.iadd, 1) := by decide +kernel
theorem dX12_years_40 : decode cX12_years 40 = .ok (.iastore, 1) := by decide +kernel
theorem dX12_years_41 : decode cX12_years 41 = .ok (.iconst 0, 1) := by decide +kernel
theorem dX12_years_42 : decode cX12_years 42 = .ok (.istore_n 3, 1) := by decide +kernel
theorem dX12_years_43 : decode cX12_years 43 = .ok (.iload_n 3, 1) := by decide +kernel
theorem dX12_years_44 : decode cX12_years 44 = .ok (.iload_n 2, 1) := by decide +kernel
theorem dX12_years_45 : decode cX12_years 45 = .ok (.if_icmp .ge 28, 3) := by decide +kernel
theorem dX12_years_48 : decode cX12_years 48 = .ok (.aload_n 0, 1) := by decide +kernel
theorem dX12_years_49 : decode cX12_years 49 = .ok (.getfield 7, 3) := by decide +kernel
theorem dX12_years_52 : decode cX12_years 52 = .ok (.bipush 8, 2) := by decide +kernel
theorem dX12_years_54 : decode cX12_years 54 = .ok (.iaload, 1) := by decide +kernel
theorem dX12_years_55 : decode cX12_years 55 = .ok (.istore 4, 2) := by decide +kernel
theorem dX12_years_57 : decode cX12_years 57 = .ok (.aload_n 0, 1) := by decide +kernel
theorem dX12_years_58 : decode cX12_years 58 = .ok (.invokevirtual 343, 3) := by decide +kernel
theorem dX12_years_61 : decode cX12_years 61 = .ok (.aload_n 0, 1) := by decide +kernel
theorem dX12_years_62 : decode cX12_years 62 = .ok (.iload 4, 2) := by decide +kernel
theorem dX12_years_64 : decode cX12_years 64 = .ok (.invokevirtual 417, 3) := by decide +kernel
theorem dX12_years_67 : decode cX12_years 67 = .ok (.iinc 3 1, 3) := by decide +kernel
theorem dX12_years_70 : decode cX12_years 70 = .ok (.goto (-27), 3) := by decide +kernel
theorem dX12_years_73 : decode cX12_years 73 = .ok (.aload_n 0, 1) := by decide +kernel
theorem dX12_years_74 : decode cX12_years 74 = .ok (.getfield 7, 3) := by decide +kernel
theorem dX12_years_77 : decode cX12_years 77 = .ok (.bipush 6, 2) := by decide +kernel
theorem dX12_years_79 : decode cX12_years 79 = .ok (.iaload, 1) := by decide +kernel
theorem dX12_years_80 : decode cX12_years 80 = .ok (.ireturn, 1) := by decide +kernel
theorem dX12_of_0 : decode cX12_of 0 = .ok (.aload_n 0, 1) := by decide +kernel
theorem dX12_of_1 : decode cX12_of 1 = .ok (.iload_n 1, 1) := by decide +kernel
theorem dX12_of_2 : decode cX12_of 2 = .ok (.invokevirtual 379, 3) := by decide +kernel
theorem dX12_of_5 : decode cX12_of 5 = .ok (.ifCond .ne 5, 3) := by decide +kernel
theorem dX12_of_8 : decode cX12_of 8 = .ok (.iconst (-1), 1) := by decide +kernel
theorem dX12_of_9 : decode cX12_of 9 = .ok (.ireturn, 1) := by decide +kernel
theorem dX12_of_10 : decode cX12_of 10 = .ok (.iload_n 2, 1) := by decide +kernel
theorem dX12_of_11 : decode cX12_of 11 = .ok (.iconst 0, 1) := by decide +kernel
theorem dX12_of_12 : decode cX12_of 12 = .ok (.iconst 3, 1) := by decide +kernel
theorem dX12_of_13 : decode cX12_of 13 = .ok (.invokestatic 87, 3) := by decide +kernel
theorem dX12_of_16 : decode cX12_of 16 = .ok (.ifCond .eq 12, 3) := by decide +kernel
theorem dX12_of_19 : decode cX12_of 19 = .ok (.aload_n 0, 1) := by decide +kernel
theorem dX12_of_20 : decode cX12_of 20 = .ok (.iload_n 1, 1) := by decide +kernel
theorem dX12_of_21 : decode cX12_of 21 = .ok (.iload_n 2, 1) := by decide +kernel
theorem dX12_of_22 : decode cX12_of 22 = .ok (.invokevirtual 105, 3) := by decide +kernel
theorem dX12_of_25 : decode cX12_of 25 = .ok (.goto 36, 3) := by decide +kernel
theorem dX12_of_28 : decode cX12_of 28 = .ok (.iload_n 2, 1) := by decide +kernel
theorem dX12_of_29 : decode cX12_of 29 = .ok (.iconst 4, 1) := by decide +kernel
theorem dX12_of_30 : decode cX12_of 30 = .ok (.if_icmp .ne 17, 3) := by decide +kernel
theorem dX12_of_33 : decode cX12_of 33 = .ok (.aload_n 0, 1) := by decide +kernel
theorem dX12_of_34 : decode cX12_of 34 = .ok (.aload_n 0, 1) := by decide +kernel
theorem dX12_of_35 : decode cX12_of 35 = .ok (.getfield 7, 3) := by decide +kernel
theorem dX12_of_38 : decode cX12_of 38 = .ok (.iconst 2, 1) := by decide +kernel
theorem dX12_of_39 : decode cX12_of 39 = .ok (.iaload, 1) := by decide +kernel
theorem dX12_of_40 : decode cX12_of 40 = .ok (.iload_n 1, 1) := by decide +kernel
theorem dX12_of_41 : decode cX12_of 41 = .ok (.invokevirtual 340, 3) := by decide +kernel
theorem dX12_of_44 : decode cX12_of 44 = .ok (.goto 17, 3) := by decide +kernel
theorem dX12_of_47 : decode cX12_of 47 = .ok (.iload_n 2, 1) := by decide +kernel
theorem dX12_of_48 : decode cX12_of 48 = .ok (.iconst 5, 1) := by decide +kernel
theorem dX12_of_49 : decode cX12_of 49 = .ok (.if_icmp .ne 11, 3) := by decide +kernel
theorem dX12_of_52 : decode cX12_of 52 = .ok (.aload_n 0, 1) := by decide +kernel
theorem dX12_of_53 : decode cX12_of 53 = .ok (.iload_n 1, 1) := by decide +kernel
theorem dX12_of_54 : decode cX12_of 54 = .ok (.invokevirtual 352, 3) := by decide +kernel
theorem dX12_of_57 : decode cX12_of 57 = .ok (.goto 4, 3) := by decide +kernel
theorem dX12_of_60 : decode cX12_of 60 = .ok (.iconst (-1), 1) := by decide +kernel
theorem dX12_of_61 : decode cX12_of 61 = .ok (.ireturn, 1) := by decide +kernel
theorem dX12_ofCell_0 : decode cX12_ofCell 0 = .ok (.iload_n 1, 1) := by decide +kernel
theorem dX12_ofCell_1 : decode cX12_ofCell 1 = .ok (.invokestatic 91, 3) := by decide +kernel
theorem dX12_ofCell_4 : decode cX12_ofCell 4 = .ok (.ifCond .ne 5, 3) := by decide +kernel
theorem dX12_ofCell_7 : decode cX12_ofCell 7 = .ok (.iconst (-1), 1) := by decide +kernel
theorem dX12_ofCell_8 : decode cX12_ofCell 8 = .ok (.ireturn, 1) := by decide +kernel
theorem dX12_ofCell_9 : decode cX12_ofCell 9 = .ok (.iload_n 2, 1) := by decide +kernel
theorem dX12_ofCell_10 : decode cX12_ofCell 10 = .ok (.ifCond .ne 15, 3) := by decide +kernel
theorem dX12_ofCell_13 : decode cX12_ofCell 13 = .ok (.aload_n 0, 1) := by decide +kernel
theorem dX12_ofCell_14 : decode cX12_ofCell 14 = .ok (.getfield 7, 3) := by decide +kernel
theorem dX12_ofCell_17 : decode cX12_ofCell 17 = .ok (.bipush 70, 2) := by decide +kernel
theorem dX12_ofCell_19 : decode cX12_ofCell 19 = .ok (.iload_n 1, 1) := by decide +kernel
theorem dX12_ofCell_20 : decode cX12_ofCell 20 = .ok (.iadd, 1) := by decide +kernel
theorem dX12_ofCell_21 : decode cX12_ofCell 21 = .ok (.iaload, 1) := by decide +kernel
theorem dX12_ofCell_22 : decode cX12_ofCell 22 = .ok (.goto 51, 3) := by decide +kernel
theorem dX12_ofCell_25 : decode cX12_ofCell 25 = .ok (.iload_n 2, 1) := by decide +kernel
theorem dX12_ofCell_26 : decode cX12_ofCell 26 = .ok (.iconst 1, 1) := by decide +kernel
theorem dX12_ofCell_27 : decode cX12_ofCell 27 = .ok (.if_icmp .ne 15, 3) := by decide +kernel
theorem dX12_ofCell_30 : decode cX12_ofCell 30 = .ok (.aload_n 0, 1) := by decide +kernel
theorem dX12_ofCell_31 : decode cX12_ofCell 31 = .ok (.getfield 7, 3) := by decide +kernel
theorem dX12_ofCell_34 : decode cX12_ofCell 34 = .ok (.bipush 40, 2) := by decide +kernel
theorem dX12_ofCell_36 : decode cX12_ofCell 36 = .ok (.iload_n 1, 1) := by decide +kernel
theorem dX12_ofCell_37 : decode cX12_ofCell 37 = .ok (.iadd, 1) := by decide +kernel
theorem dX12_ofCell_38 : decode cX12_ofCell 38 = .ok (.iaload, 1) := by decide +kernel
theorem dX12_ofCell_39 : decode cX12_ofCell 39 = .ok (.goto 34, 3) := by decide +kernel
theorem dX12_ofCell_42 : decode cX12_ofCell 42 = .ok (.iload_n 2, 1) := by decide +kernel
theorem dX12_ofCell_43 : decode cX12_ofCell 43 = .ok (.iconst 2, 1) := by decide +kernel
theorem dX12_ofCell_44 : decode cX12_ofCell 44 = .ok (.if_icmp .ne 15, 3) := by decide +kernel
theorem dX12_ofCell_47 : decode cX12_ofCell 47 = .ok (.aload_n 0, 1) := by decide +kernel
theorem dX12_ofCell_48 : decode cX12_ofCell 48 = .ok (.getfield 7, 3) := by decide +kernel
theorem dX12_ofCell_51 : decode cX12_ofCell 51 = .ok (.bipush 100, 2) := by decide +kernel
theorem dX12_ofCell_53 : decode cX12_ofCell 53 = .ok (.iload_n 1, 1) := by decide +kernel
theorem dX12_ofCell_54 : decode cX12_ofCell 54 = .ok (.iadd, 1) := by decide +kernel
theorem dX12_ofCell_55 : decode cX12_ofCell 55 = .ok (.iaload, 1) := by decide +kernel
theorem dX12_ofCell_56 : decode cX12_ofCell 56 = .ok (.goto 17, 3) := by decide +kernel
theorem dX12_ofCell_59 : decode cX12_ofCell 59 = .ok (.iload_n 2, 1) := by decide +kernel
theorem dX12_ofCell_60 : decode cX12_ofCell 60 = .ok (.iconst 3, 1) := by decide +kernel
theorem dX12_ofCell_61 : decode cX12_ofCell 61 = .ok (.if_icmp .ne 11, 3) := by decide +kernel
theorem dX12_ofCell_64 : decode cX12_ofCell 64 = .ok (.aload_n 0, 1) := by decide +kernel
theorem dX12_ofCell_65 : decode cX12_ofCell 65 = .ok (.iload_n 1, 1) := by decide +kernel
theorem dX12_ofCell_66 : decode cX12_ofCell 66 = .ok (.invokevirtual 116, 3) := by decide +kernel
theorem dX12_ofCell_69 : decode cX12_ofCell 69 = .ok (.goto 4, 3) := by decide +kernel
theorem dX12_ofCell_72 : decode cX12_ofCell 72 = .ok (.iconst (-1), 1) := by decide +kernel
theorem dX12_ofCell_73 : decode cX12_ofCell 73 = .ok (.ireturn, 1) := by decide +kernel
theorem dX12_is_0 : decode cX12_is 0 = .ok (.iload_n 1, 1) := by decide +kernel
theorem dX12_is_1 : decode cX12_is 1 = .ok (.iconst 0, 1) := by decide +kernel
theorem dX12_is_2 : decode cX12_is 2 = .ok (.iconst 2, 1) := by decide +kernel
theorem dX12_is_3 : decode cX12_is 3 = .ok (.invokestatic 87, 3) := by decide +kernel
theorem dX12_is_6 : decode cX12_is 6 = .ok (.ifCond .eq 15, 3) := by decide +kernel
theorem dX12_is_9 : decode cX12_is 9 = .ok (.aload_n 0, 1) := by decide +kernel
theorem dX12_is_10 : decode cX12_is 10 = .ok (.getfield 7, 3) := by decide +kernel
theorem dX12_is_13 : decode cX12_is 13 = .ok (.bipush 6, 2) := by decide +kernel
theorem dX12_is_15 : decode cX12_is 15 = .ok (.iload_n 1, 1) := by decide +kernel
theorem dX12_is_16 : decode cX12_is 16 = .ok (.iadd, 1) := by decide +kernel
theorem dX12_is_17 : decode cX12_is 17 = .ok (.iaload, 1) := by decide +kernel
theorem dX12_is_18 : decode cX12_is 18 = .ok (.goto 17, 3) := by decide +kernel
theorem dX12_is_21 : decode cX12_is 21 = .ok (.iload_n 1, 1) := by decide +kernel
theorem dX12_is_22 : decode cX12_is 22 = .ok (.iconst 3, 1) := by decide +kernel
theorem dX12_is_23 : decode cX12_is 23 = .ok (.if_icmp .ne 10, 3) := by decide +kernel
theorem dX12_is_26 : decode cX12_is 26 = .ok (.aload_n 0, 1) := by decide +kernel
theorem dX12_is_27 : decode cX12_is 27 = .ok (.invokevirtual 370, 3) := by decide +kernel
theorem dX12_is_30 : decode cX12_is 30 = .ok (.goto 5, 3) := by decide +kernel
theorem dX12_is_33 : decode cX12_is 33 = .ok (.bipush (-2), 2) := by decide +kernel
theorem dX12_is_35 : decode cX12_is 35 = .ok (.ireturn, 1) := by decide +kernel
theorem dX12_book_0 : decode cX12_book 0 = .ok (.iload_n 1, 1) := by decide +kernel
theorem dX12_book_1 : decode cX12_book 1 = .ok (.iconst (-1), 1) := by decide +kernel
theorem dX12_book_2 : decode cX12_book 2 = .ok (.if_icmp .ne 11, 3) := by decide +kernel
theorem dX12_book_5 : decode cX12_book 5 = .ok (.aload_n 0, 1) := by decide +kernel
theorem dX12_book_6 : decode cX12_book 6 = .ok (.getfield 7, 3) := by decide +kernel
theorem dX12_book_9 : decode cX12_book 9 = .ok (.bipush 9, 2) := by decide +kernel
theorem dX12_book_11 : decode cX12_book 11 = .ok (.iaload, 1) := by decide +kernel
theorem dX12_book_12 : decode cX12_book 12 = .ok (.ireturn, 1) := by decide +kernel
theorem dX12_book_13 : decode cX12_book 13 = .ok (.iload_n 1, 1) := by decide +kernel
theorem dX12_book_14 : decode cX12_book 14 = .ok (.iconst 0, 1) := by decide +kernel
theorem dX12_book_15 : decode cX12_book 15 = .ok (.aload_n 0, 1) := by decide +kernel
theorem dX12_book_16 : decode cX12_book 16 = .ok (.getfield 7, 3) := by decide +kernel
theorem dX12_book_19 : decode cX12_book 19 = .ok (.bipush 9, 2) := by decide +kernel
theorem dX12_book_21 : decode cX12_book 21 = .ok (.iaload, 1) := by decide +kernel
theorem dX12_book_22 : decode cX12_book 22 = .ok (.iconst 1, 1) := by decide +kernel
theorem dX12_book_23 : decode cX12_book 23 = .ok (.isub, 1) := by decide +kernel
theorem dX12_book_24 : decode cX12_book 24 = .ok (.invokestatic 87, 3) := by decide +kernel
theorem dX12_book_27 : decode cX12_book 27 = .ok (.ifCond .ne 6, 3) := by decide +kernel
theorem dX12_book_30 : decode cX12_book 30 = .ok (.bipush (-2), 2) := by decide +kernel
theorem dX12_book_32 : decode cX12_book 32 = .ok (.ireturn, 1) := by decide +kernel
theorem dX12_book_33 : decode cX12_book 33 = .ok (.aload_n 0, 1) := by decide +kernel
theorem dX12_book_34 : decode cX12_book 34 = .ok (.getfield 7, 3) := by decide +kernel
theorem dX12_book_37 : decode cX12_book 37 = .ok (.sipush 3643, 3) := by decide +kernel
theorem dX12_book_40 : decode cX12_book 40 = .ok (.iconst 2, 1) := by decide +kernel
theorem dX12_book_41 : decode cX12_book 41 = .ok (.iload_n 1, 1) := by decide +kernel
theorem dX12_book_42 : decode cX12_book 42 = .ok (.imul, 1) := by decide +kernel
theorem dX12_book_43 : decode cX12_book 43 = .ok (.iadd, 1) := by decide +kernel
theorem dX12_book_44 : decode cX12_book 44 = .ok (.iconst 1, 1) := by decide +kernel
theorem dX12_book_45 : decode cX12_book 45 = .ok (.iadd, 1) := by decide +kernel
theorem dX12_book_46 : decode cX12_book 46 = .ok (.iaload, 1) := by decide +kernel
theorem dX12_book_47 : decode cX12_book 47 = .ok (.istore_n 3, 1) := by decide +kernel
theorem dX12_book_48 : decode cX12_book 48 = .ok (.iload_n 2, 1) := by decide +kernel
theorem dX12_book_49 : decode cX12_book 49 = .ok (.ifCond .ne 18, 3) := by decide +kernel
theorem dX12_book_52 : decode cX12_book 52 = .ok (.aload_n 0, 1) := by decide +kernel
theorem dX12_book_53 : decode cX12_book 53 = .ok (.getfield 7, 3) := by decide +kernel
theorem dX12_book_56 : decode cX12_book 56 = .ok (.sipush 3643, 3) := by decide +kernel
theorem dX12_book_59 : decode cX12_book 59 = .ok (.iconst 2, 1) := by decide +kernel
theorem dX12_book_60 : decode cX12_book 60 = .ok (.iload_n 1, 1) := by decide +kernel
theorem dX12_book_61 : decode cX12_book 61 = .ok (.imul, 1) := by decide +kernel
theorem dX12_book_62 : decode cX12_book 62 = .ok (.iadd, 1) := by decide +kernel
theorem dX12_book_63 : decode cX12_book 63 = .ok (.iaload, 1) := by decide +kernel
theorem dX12_book_64 : decode cX12_book 64 = .ok (.goto 45, 3) := by decide +kernel
theorem dX12_book_67 : decode cX12_book 67 = .ok (.iload_n 2, 1) := by decide +kernel
theorem dX12_book_68 : decode cX12_book 68 = .ok (.iconst 1, 1) := by decide +kernel
theorem dX12_book_69 : decode cX12_book 69 = .ok (.if_icmp .ne 11, 3) := by decide +kernel
theorem dX12_book_72 : decode cX12_book 72 = .ok (.iload_n 3, 1) := by decide +kernel
theorem dX12_book_73 : decode cX12_book 73 = .ok (.sipush 3000, 3) := by decide +kernel
theorem dX12_book_76 : decode cX12_book 76 = .ok (.idiv, 1) := by decide +kernel
theorem dX12_book_77 : decode cX12_book 77 = .ok (.goto 32, 3) := by decide +kernel
theorem dX12_book_80 : decode cX12_book 80 = .ok (.iload_n 2, 1) := by decide +kernel
theorem dX12_book_81 : decode cX12_book 81 = .ok (.iconst 2, 1) := by decide +kernel
theorem dX12_book_82 : decode cX12_book 82 = .ok (.if_icmp .ne 13, 3) := by decide +kernel
theorem dX12_book_85 : decode cX12_book 85 = .ok (.iload_n 3, 1) := by decide +kernel
theorem dX12_book_86 : decode cX12_book 86 = .ok (.bipush 100, 2) := by decide +kernel
theorem dX12_book_88 : decode cX12_book 88 = .ok (.idiv, 1) := by decide +kernel
theorem dX12_book_89 : decode cX12_book 89 = .ok (.bipush 30, 2) := by decide +kernel
theorem dX12_book_91 : decode cX12_book 91 = .ok (.irem, 1) := by decide +kernel
theorem dX12_book_92 : decode cX12_book 92 = .ok (.goto 17, 3) := by decide +kernel
theorem dX12_book_95 : decode cX12_book 95 = .ok (.iload_n 2, 1) := by decide +kernel
theorem dX12_book_96 : decode cX12_book 96 = .ok (.iconst 3, 1) := by decide +kernel
theorem dX12_book_97 : decode cX12_book 97 = .ok (.if_icmp .ne 10, 3) := by decide +kernel
theorem dX12_book_100 : decode cX12_book 100 = .ok (.iload_n 3, 1) := by decide +kernel
theorem dX12_book_101 : decode cX12_book 101 = .ok (.bipush 100, 2) := by decide +kernel
theorem dX12_book_103 : decode cX12_book 103 = .ok (.irem, 1) := by decide +kernel
theorem dX12_book_104 : decode cX12_book 104 = .ok (.goto 5, 3) := by decide +kernel
theorem dX12_book_107 : decode cX12_book 107 = .ok (.bipush (-2), 2) := by decide +kernel
theorem dX12_book_109 : decode cX12_book 109 = .ok (.ireturn, 1) := by decide +kernel
theorem dX12_ledger_0 : decode cX12_ledger 0 = .ok (.iload_n 1, 1) := by decide +kernel
theorem dX12_ledger_1 : decode cX12_ledger 1 = .ok (.iconst (-1), 1) := by decide +kernel
theorem dX12_ledger_2 : decode cX12_ledger 2 = .ok (.if_icmp .eq 14, 3) := by decide +kernel
theorem dX12_ledger_5 : decode cX12_ledger 5 = .ok (.aload_n 0, 1) := by decide +kernel
theorem dX12_ledger_6 : decode cX12_ledger 6 = .ok (.iload_n 1, 1) := by decide +kernel
theorem dX12_ledger_7 : decode cX12_ledger 7 = .ok (.invokevirtual 379, 3) := by decide +kernel
theorem dX12_ledger_10 : decode cX12_ledger 10 = .ok (.ifCond .ne 6, 3) := by decide +kernel
theorem dX12_ledger_13 : decode cX12_ledger 13 = .ok (.bipush (-2), 2) := by decide +kernel
theorem dX12_ledger_15 : decode cX12_ledger 15 = .ok (.ireturn, 1) := by decide +kernel
theorem dX12_ledger_16 : decode cX12_ledger 16 = .ok (.iconst 0, 1) := by decide +kernel
theorem dX12_ledger_17 : decode cX12_ledger 17 = .ok (.istore_n 2, 1) := by decide +kernel
theorem dX12_ledger_18 : decode cX12_ledger 18 = .ok (.iconst 0, 1) := by decide +kernel
theorem dX12_ledger_19 : decode cX12_ledger 19 = .ok (.istore_n 3, 1) := by decide +kernel
theorem dX12_ledger_20 : decode cX12_ledger 20 = .ok (.iload_n 3, 1) := by decide +kernel
theorem dX12_ledger_21 : decode cX12_ledger 21 = .ok (.aload_n 0, 1) := by decide +kernel
theorem dX12_ledger_22 : decode cX12_ledger 22 = .ok (.getfield 7, 3) := by decide +kernel
theorem dX12_ledger_25 : decode cX12_ledger 25 = .ok (.bipush 9, 2) := by decide +kernel
theorem dX12_ledger_27 : decode cX12_ledger 27 = .ok (.iaload, 1) := by decide +kernel
theorem dX12_ledger_28 : decode cX12_ledger 28 = .ok (.if_icmp .ge 37, 3) := by decide +kernel
theorem dX12_ledger_31 : decode cX12_ledger 31 = .ok (.iload_n 2, 1) := by decide +kernel
theorem dX12_ledger_32 : decode cX12_ledger 32 = .ok (.iload_n 1, 1) := by decide +kernel
theorem dX12_ledger_33 : decode cX12_ledger 33 = .ok (.iconst (-1), 1) := by decide +kernel
theorem dX12_ledger_34 : decode cX12_ledger 34 = .ok (.if_icmp .eq 13, 3) := by decide +kernel
theorem dX12_ledger_37 : decode cX12_ledger 37 = .ok (.aload_n 0, 1) := by decide +kernel
theorem dX12_ledger_38 : decode cX12_ledger 38 = .ok (.iload_n 3, 1) := by decide +kernel
theorem dX12_ledger_39 : decode cX12_ledger 39 = .ok (.iconst 1, 1) := by decide +kernel
theorem dX12_ledger_40 : decode cX12_ledger 40 = .ok (.invokevirtual 420, 3) := by decide +kernel
theorem dX12_ledger_43 : decode cX12_ledger 43 = .ok (.iload_n 1, 1) := by decide +kernel
theorem dX12_ledger_44 : decode cX12_ledger 44 = .ok (.if_icmp .ne 12, 3) := by decide +kernel
theorem dX12_ledger_47 : decode cX12_ledger 47 = .ok (.aload_n 0, 1) := by decide +kernel
theorem dX12_ledger_48 : decode cX12_ledger 48 = .ok (.iload_n 3, 1) := by decide +kernel
theorem dX12_ledger_49 : decode cX12_ledger 49 = .ok (.iconst 3, 1) := by decide +kernel
theorem dX12_ledger_50 : decode cX12_ledger 50 = .ok (.invokevirtual 420, 3) := by decide +kernel
theorem dX12_ledger_53 : decode cX12_ledger 53 = .ok (.goto 4, 3) := by decide +kernel
theorem dX12_ledger_56 : decode cX12_ledger 56 = .ok (.iconst 0, 1) := by decide +kernel
theorem dX12_ledger_57 : decode cX12_ledger 57 = .ok (.iadd, 1) := by decide +kernel
theorem dX12_ledger_58 : decode cX12_ledger 58 = .ok (.istore_n 2, 1) := by decide +kernel
theorem dX12_ledger_59 : decode cX12_ledger 59 = .ok (.iinc 3 1, 3) := by decide +kernel
theorem dX12_ledger_62 : decode cX12_ledger 62 = .ok (.goto (-42), 3) := by decide +kernel
theorem dX12_ledger_65 : decode cX12_ledger 65 = .ok (.iload_n 2, 1) := by decide +kernel
theorem dX12_ledger_66 : decode cX12_ledger 66 = .ok (.ireturn, 1) := by decide +kernel
theorem dX12_lackOf_0 : decode cX12_lackOf 0 = .ok (.aload_n 0, 1) := by decide +kernel
theorem dX12_lackOf_1 : decode cX12_lackOf 1 = .ok (.getfield 7, 3) := by decide +kernel
theorem dX12_lackOf_4 : decode cX12_lackOf 4 = .ok (.bipush 70, 2) := by decide +kernel
theorem dX12_lackOf_6 : decode cX12_lackOf 6 = .ok (.iload_n 1, 1) := by decide +kernel
theorem dX12_lackOf_7 : decode cX12_lackOf 7 = .ok (.iadd, 1) := by decide +kernel
theorem dX12_lackOf_8 : decode cX12_lackOf 8 = .ok (.iaload, 1) := by decide +kernel
theorem dX12_lackOf_9 : decode cX12_lackOf 9 = .ok (.aload_n 0, 1) := by decide +kernel
theorem dX12_lackOf_10 : decode cX12_lackOf 10 = .ok (.getfield 7, 3) := by decide +kernel
theorem dX12_lackOf_13 : decode cX12_lackOf 13 = .ok (.bipush 40, 2) := by decide +kernel
theorem dX12_lackOf_15 : decode cX12_lackOf 15 = .ok (.iload_n 1, 1) := by decide +kernel
theorem dX12_lackOf_16 : decode cX12_lackOf 16 = .ok (.iadd, 1) := by decide +kernel
theorem dX12_lackOf_17 : decode cX12_lackOf 17 = .ok (.iaload, 1) := by decide +kernel
theorem dX12_lackOf_18 : decode cX12_lackOf 18 = .ok (.if_icmp .le 25, 3) := by decide +kernel
theorem dX12_lackOf_21 : decode cX12_lackOf 21 = .ok (.aload_n 0, 1) := by decide +kernel
theorem dX12_lackOf_22 : decode cX12_lackOf 22 = .ok (.getfield 7, 3) := by decide +kernel
theorem dX12_lackOf_25 : decode cX12_lackOf 25 = .ok (.bipush 70, 2) := by decide +kernel
theorem dX12_lackOf_27 : decode cX12_lackOf 27 = .ok (.iload_n 1, 1) := by decide +kernel
theorem dX12_lackOf_28 : decode cX12_lackOf 28 = .ok (.iadd, 1) := by decide +kernel
theorem dX12_lackOf_29 : decode cX12_lackOf 29 = .ok (.iaload, 1) := by decide +kernel
theorem dX12_lackOf_30 : decode cX12_lackOf 30 = .ok (.aload_n 0, 1) := by decide +kernel
theorem dX12_lackOf_31 : decode cX12_lackOf 31 = .ok (.getfield 7, 3) := by decide +kernel
theorem dX12_lackOf_34 : decode cX12_lackOf 34 = .ok (.bipush 40, 2) := by decide +kernel
theorem dX12_lackOf_36 : decode cX12_lackOf 36 = .ok (.iload_n 1, 1) := by decide +kernel
theorem dX12_lackOf_37 : decode cX12_lackOf 37 = .ok (.iadd, 1) := by decide +kernel
theorem dX12_lackOf_38 : decode cX12_lackOf 38 = .ok (.iaload, 1) := by decide +kernel
theorem dX12_lackOf_39 : decode cX12_lackOf 39 = .ok (.isub, 1) := by decide +kernel
theorem dX12_lackOf_40 : decode cX12_lackOf 40 = .ok (.goto 4, 3) := by decide +kernel
theorem dX12_lackOf_43 : decode cX12_lackOf 43 = .ok (.iconst 0, 1) := by decide +kernel
theorem dX12_lackOf_44 : decode cX12_lackOf 44 = .ok (.ireturn, 1) := by decide +kernel
theorem dX12_thirsty_0 : decode cX12_thirsty 0 = .ok (.iconst 0, 1) := by decide +kernel
theorem dX12_thirsty_1 : decode cX12_thirsty 1 = .ok (.istore_n 2, 1) := by decide +kernel
theorem dX12_thirsty_2 : decode cX12_thirsty 2 = .ok (.iconst 0, 1) := by decide +kernel
theorem dX12_thirsty_3 : decode cX12_thirsty 3 = .ok (.istore_n 3, 1) := by decide +kernel
theorem dX12_thirsty_4 : decode cX12_thirsty 4 = .ok (.iconst 0, 1) := by decide +kernel
theorem dX12_thirsty_5 : decode cX12_thirsty 5 = .ok (.istore 4, 2) := by decide +kernel
theorem dX12_thirsty_7 : decode cX12_thirsty 7 = .ok (.iload 4, 2) := by decide +kernel
theorem dX12_thirsty_9 : decode cX12_thirsty 9 = .ok (.bipush 30, 2) := by decide +kernel
theorem dX12_thirsty_11 : decode cX12_thirsty 11 = .ok (.if_icmp .ge 38, 3) := by decide +kernel
theorem dX12_thirsty_14 : decode cX12_thirsty 14 = .ok (.iload_n 2, 1) := by decide +kernel
theorem dX12_thirsty_15 : decode cX12_thirsty 15 = .ok (.aload_n 0, 1) := by decide +kernel
theorem dX12_thirsty_16 : decode cX12_thirsty 16 = .ok (.iload 4, 2) := by decide +kernel
theorem dX12_thirsty_18 : decode cX12_thirsty 18 = .ok (.invokevirtual 423, 3) := by decide +kernel
theorem dX12_thirsty_21 : decode cX12_thirsty 21 = .ok (.ifCond .le 10, 3) := by decide +kernel
theorem dX12_thirsty_24 : decode cX12_thirsty 24 = .ok (.iconst 1, 1) := by decide +kernel
theorem dX12_thirsty_25 : decode cX12_thirsty 25 = .ok (.iload 4, 2) := by decide +kernel
theorem dX12_thirsty_27 : decode cX12_thirsty 27 = .ok (.ishl, 1) := by decide +kernel
theorem dX12_thirsty_28 : decode cX12_thirsty 28 = .ok (.goto 4, 3) := by decide +kernel
theorem dX12_thirsty_31 : decode cX12_thirsty 31 = .ok (.iconst 0, 1) := by decide +kernel
theorem dX12_thirsty_32 : decode cX12_thirsty 32 = .ok (.ior, 1) := by decide +kernel
theorem dX12_thirsty_33 : decode cX12_thirsty 33 = .ok (.istore_n 2, 1) := by decide +kernel
theorem dX12_thirsty_34 : decode cX12_thirsty 34 = .ok (.iload_n 3, 1) := by decide +kernel
theorem dX12_thirsty_35 : decode cX12_thirsty 35 = .ok (.aload_n 0, 1) := by decide +kernel
theorem dX12_thirsty_36 : decode cX12_thirsty 36 = .ok (.iload 4, 2) := by decide +kernel
theorem dX12_thirsty_38 : decode cX12_thirsty 38 = .ok (.invokevirtual 423, 3) := by decide +kernel
theorem dX12_thirsty_41 : decode cX12_thirsty 41 = .ok (.iadd, 1) := by decide +kernel
theorem dX12_thirsty_42 : decode cX12_thirsty 42 = .ok (.istore_n 3, 1) := by decide +kernel
theorem dX12_thirsty_43 : decode cX12_thirsty 43 = .ok (.iinc 4 1, 3) := by decide +kernel
theorem dX12_thirsty_46 : decode cX12_thirsty 46 = .ok (.goto (-39), 3) := by decide +kernel
theorem dX12_thirsty_49 : decode cX12_thirsty 49 = .ok (.iload_n 1, 1) := by decide +kernel
theorem dX12_thirsty_50 : decode cX12_thirsty 50 = .ok (.ifCond .eq 7, 3) := by decide +kernel
theorem dX12_thirsty_53 : decode cX12_thirsty 53 = .ok (.iload_n 3, 1) := by decide +kernel
theorem dX12_thirsty_54 : decode cX12_thirsty 54 = .ok (.goto 4, 3) := by decide +kernel
theorem dX12_thirsty_57 : decode cX12_thirsty 57 = .ok (.iload_n 2, 1) := by decide +kernel
theorem dX12_thirsty_58 : decode cX12_thirsty 58 = .ok (.ireturn, 1) := by decide +kernel
theorem dX12_driest_0 : decode cX12_driest 0 = .ok (.iconst (-1), 1) := by decide +kernel
theorem dX12_driest_1 : decode cX12_driest 1 = .ok (.istore_n 1, 1) := by decide +kernel
theorem dX12_driest_2 : decode cX12_driest 2 = .ok (.iconst 0, 1) := by decide +kernel
theorem dX12_driest_3 : decode cX12_driest 3 = .ok (.istore_n 2, 1) := by decide +kernel
theorem dX12_driest_4 : decode cX12_driest 4 = .ok (.iload_n 2, 1) := by decide +kernel
theorem dX12_driest_5 : decode cX12_driest 5 = .ok (.bipush 30, 2) := by decide +kernel
theorem dX12_driest_7 : decode cX12_driest 7 = .ok (.if_icmp .ge 33, 3) := by decide +kernel
theorem dX12_driest_10 : decode cX12_driest 10 = .ok (.aload_n 0, 1) := by decide +kernel
theorem dX12_driest_11 : decode cX12_driest 11 = .ok (.iload_n 2, 1) := by decide +kernel
theorem dX12_driest_12 : decode cX12_driest 12 = .ok (.invokevirtual 423, 3) := by decide +kernel
theorem dX12_driest_15 : decode cX12_driest 15 = .ok (.iload_n 1, 1) := by decide +kernel
theorem dX12_driest_16 : decode cX12_driest 16 = .ok (.iconst (-1), 1) := by decide +kernel
theorem dX12_driest_17 : decode cX12_driest 17 = .ok (.if_icmp .ne 7, 3) := by decide +kernel
theorem dX12_driest_20 : decode cX12_driest 20 = .ok (.iconst 0, 1) := by decide +kernel
theorem dX12_driest_21 : decode cX12_driest 21 = .ok (.goto 8, 3) := by decide +kernel
theorem dX12_driest_24 : decode cX12_driest 24 = .ok (.aload_n 0, 1) := by decide +kernel
theorem dX12_driest_25 : decode cX12_driest 25 = .ok (.iload_n 1, 1) := by decide +kernel
theorem dX12_driest_26 : decode cX12_driest 26 = .ok (.invokevirtual 423, 3) := by decide +kernel
theorem dX12_driest_29 : decode cX12_driest 29 = .ok (.if_icmp .le 5, 3) := by decide +kernel
theorem dX12_driest_32 : decode cX12_driest 32 = .ok (.iload_n 2, 1) := by decide +kernel
theorem dX12_driest_33 : decode cX12_driest 33 = .ok (.istore_n 1, 1) := by decide +kernel
theorem dX12_driest_34 : decode cX12_driest 34 = .ok (.iinc 2 1, 3) := by decide +kernel
theorem dX12_driest_37 : decode cX12_driest 37 = .ok (.goto (-33), 3) := by decide +kernel
theorem dX12_driest_40 : decode cX12_driest 40 = .ok (.iload_n 1, 1) := by decide +kernel
theorem dX12_driest_41 : decode cX12_driest 41 = .ok (.ireturn, 1) := by decide +kernel
theorem dX12_wettest_0 : decode cX12_wettest 0 = .ok (.iconst (-1), 1) := by decide +kernel
theorem dX12_wettest_1 : decode cX12_wettest 1 = .ok (.istore_n 1, 1) := by decide +kernel
theorem dX12_wettest_2 : decode cX12_wettest 2 = .ok (.iconst 0, 1) := by decide +kernel
theorem dX12_wettest_3 : decode cX12_wettest 3 = .ok (.istore_n 2, 1) := by decide +kernel
theorem dX12_wettest_4 : decode cX12_wettest 4 = .ok (.iload_n 2, 1) := by decide +kernel
theorem dX12_wettest_5 : decode cX12_wettest 5 = .ok (.aload_n 0, 1) := by decide +kernel
theorem dX12_wettest_6 : decode cX12_wettest 6 = .ok (.getfield 7, 3) := by decide +kernel
theorem dX12_wettest_9 : decode cX12_wettest 9 = .ok (.iconst 0, 1) := by decide +kernel
theorem dX12_wettest_10 : decode cX12_wettest 10 = .ok (.iaload, 1) := by decide +kernel
theorem dX12_wettest_11 : decode cX12_wettest 11 = .ok (.if_icmp .ge 35, 3) := by decide +kernel
theorem dX12_wettest_14 : decode cX12_wettest 14 = .ok (.aload_n 0, 1) := by decide +kernel
theorem dX12_wettest_15 : decode cX12_wettest 15 = .ok (.iload_n 2, 1) := by decide +kernel
theorem dX12_wettest_16 : decode cX12_wettest 16 = .ok (.iconst 2, 1) := by decide +kernel
theorem dX12_wettest_17 : decode cX12_wettest 17 = .ok (.invokevirtual 105, 3) := by decide +kernel
theorem dX12_wettest_20 : decode cX12_wettest 20 = .ok (.iload_n 1, 1) := by decide +kernel
theorem dX12_wettest_21 : decode cX12_wettest 21 = .ok (.iconst (-1), 1) := by decide +kernel
theorem dX12_wettest_22 : decode cX12_wettest 22 = .ok (.if_icmp .ne 7, 3) := by decide +kernel
theorem dX12_wettest_25 : decode cX12_wettest 25 = .ok (.iconst 0, 1) := by decide +kernel
theorem dX12_wettest_26 : decode cX12_wettest 26 = .ok (.goto 9, 3) := by decide +kernel
theorem dX12_wettest_29 : decode cX12_wettest 29 = .ok (.aload_n 0, 1) := by decide +kernel
theorem dX12_wettest_30 : decode cX12_wettest 30 = .ok (.iload_n 1, 1) := by decide +kernel
theorem dX12_wettest_31 : decode cX12_wettest 31 = .ok (.iconst 2, 1) := by decide +kernel
theorem dX12_wettest_32 : decode cX12_wettest 32 = .ok (.invokevirtual 105, 3) := by decide +kernel
theorem dX12_wettest_35 : decode cX12_wettest 35 = .ok (.if_icmp .le 5, 3) := by decide +kernel
theorem dX12_wettest_38 : decode cX12_wettest 38 = .ok (.iload_n 2, 1) := by decide +kernel
theorem dX12_wettest_39 : decode cX12_wettest 39 = .ok (.istore_n 1, 1) := by decide +kernel
theorem dX12_wettest_40 : decode cX12_wettest 40 = .ok (.iinc 2 1, 3) := by decide +kernel
theorem dX12_wettest_43 : decode cX12_wettest 43 = .ok (.goto (-39), 3) := by decide +kernel
theorem dX12_wettest_46 : decode cX12_wettest 46 = .ok (.iload_n 1, 1) := by decide +kernel
theorem dX12_wettest_47 : decode cX12_wettest 47 = .ok (.ireturn, 1) := by decide +kernel
theorem dX12_near_0 : decode cX12_near 0 = .ok (.iload_n 1, 1) := by decide +kernel
theorem dX12_near_1 : decode cX12_near 1 = .ok (.invokestatic 91, 3) := by decide +kernel
theorem dX12_near_4 : decode cX12_near 4 = .ok (.ifCond .ne 5, 3) := by decide +kernel
theorem dX12_near_7 : decode cX12_near 7 = .ok (.iconst (-1), 1) := by decide +kernel
theorem dX12_near_8 : decode cX12_near 8 = .ok (.ireturn, 1) := by decide +kernel
theorem dX12_near_9 : decode cX12_near 9 = .ok (.aload_n 0, 1) := by decide +kernel
theorem dX12_near_10 : decode cX12_near 10 = .ok (.iload_n 1, 1) := by decide +kernel
theorem dX12_near_11 : decode cX12_near 11 = .ok (.aload_n 0, 1) := by decide +kernel
theorem dX12_near_12 : decode cX12_near 12 = .ok (.invokevirtual 324, 3) := by decide +kernel
theorem dX12_near_15 : decode cX12_near 15 = .ok (.invokevirtual 327, 3) := by decide +kernel
theorem dX12_near_18 : decode cX12_near 18 = .ok (.iconst (-1), 1) := by decide +kernel
theorem dX12_near_19 : decode cX12_near 19 = .ok (.istore_n 2, 1) := by decide +kernel
theorem dX12_near_20 : decode cX12_near 20 = .ok (.iconst 0, 1) := by decide +kernel
theorem dX12_near_21 : decode cX12_near 21 = .ok (.istore_n 3, 1) := by decide +kernel
theorem dX12_near_22 : decode cX12_near 22 = .ok (.iload_n 3, 1) := by decide +kernel
theorem dX12_near_23 : decode cX12_near 23 = .ok (.aload_n 0, 1) := by decide +kernel
theorem dX12_near_24 : decode cX12_near 24 = .ok (.getfield 7, 3) := by decide +kernel
theorem dX12_near_27 : decode cX12_near 27 = .ok (.iconst 0, 1) := by decide +kernel
theorem dX12_near_28 : decode cX12_near 28 = .ok (.iaload, 1) := by decide +kernel
theorem dX12_near_29 : decode cX12_near 29 = .ok (.if_icmp .ge 56, 3) := by decide +kernel
theorem dX12_near_32 : decode cX12_near 32 = .ok (.aload_n 0, 1) := by decide +kernel
theorem dX12_near_33 : decode cX12_near 33 = .ok (.getfield 43, 3) := by decide +kernel
theorem dX12_near_36 : decode cX12_near 36 = .ok (.aload_n 0, 1) := by decide +kernel
theorem dX12_near_37 : decode cX12_near 37 = .ok (.iload_n 3, 1) := by decide +kernel
theorem dX12_near_38 : decode cX12_near 38 = .ok (.iconst 0, 1) := by decide +kernel
theorem dX12_near_39 : decode cX12_near 39 = .ok (.invokevirtual 105, 3) := by decide +kernel
theorem dX12_near_42 : decode cX12_near 42 = .ok (.iaload, 1) := by decide +kernel
theorem dX12_near_43 : decode cX12_near 43 = .ok (.iconst (-1), 1) := by decide +kernel
theorem dX12_near_44 : decode cX12_near 44 = .ok (.if_icmp .eq 35, 3) := by decide +kernel
theorem dX12_near_47 : decode cX12_near 47 = .ok (.iload_n 2, 1) := by decide +kernel
theorem dX12_near_48 : decode cX12_near 48 = .ok (.iconst (-1), 1) := by decide +kernel
theorem dX12_near_49 : decode cX12_near 49 = .ok (.if_icmp .eq 28, 3) := by decide +kernel
theorem dX12_near_52 : decode cX12_near 52 = .ok (.aload_n 0, 1) := by decide +kernel
theorem dX12_near_53 : decode cX12_near 53 = .ok (.getfield 43, 3) := by decide +kernel
theorem dX12_near_56 : decode cX12_near 56 = .ok (.aload_n 0, 1) := by decide +kernel
theorem dX12_near_57 : decode cX12_near 57 = .ok (.iload_n 3, 1) := by decide +kernel
theorem dX12_near_58 : decode cX12_near 58 = .ok (.iconst 0, 1) := by decide +kernel
theorem dX12_near_59 : decode cX12_near 59 = .ok (.invokevirtual 105, 3) := by decide +kernel
theorem dX12_near_62 : decode cX12_near 62 = .ok (.iaload, 1) := by decide +kernel
theorem dX12_near_63 : decode cX12_near 63 = .ok (.aload_n 0, 1) := by decide +kernel
theorem dX12_near_64 : decode cX12_near 64 = .ok (.getfield 43, 3) := by decide +kernel
theorem dX12_near_67 : decode cX12_near 67 = .ok (.aload_n 0, 1) := by decide +kernel
theorem dX12_near_68 : decode cX12_near 68 = .ok (.iload_n 2, 1) := by decide +kernel
theorem dX12_near_69 : decode cX12_near 69 = .ok (.iconst 0, 1) := by decide +kernel
theorem dX12_near_70 : decode cX12_near 70 = .ok (.invokevirtual 105, 3) := by decide +kernel
theorem dX12_near_73 : decode cX12_near 73 = .ok (.iaload, 1) := by decide +kernel
theorem dX12_near_74 : decode cX12_near 74 = .ok (.if_icmp .ge 5, 3) := by decide +kernel
theorem dX12_near_77 : decode cX12_near 77 = .ok (.iload_n 3, 1) := by decide +kernel
theorem dX12_near_78 : decode cX12_near 78 = .ok (.istore_n 2, 1) := by decide +kernel
theorem dX12_near_79 : decode cX12_near 79 = .ok (.iinc 3 1, 3) := by decide +kernel
theorem dX12_near_82 : decode cX12_near 82 = .ok (.goto (-60), 3) := by decide +kernel
theorem dX12_near_85 : decode cX12_near 85 = .ok (.iload_n 2, 1) := by decide +kernel
theorem dX12_near_86 : decode cX12_near 86 = .ok (.ireturn, 1) := by decide +kernel
theorem dX12_setAside_0 : decode cX12_setAside 0 = .ok (.bipush 6, 2) := by decide +kernel
theorem dX12_setAside_2 : decode cX12_setAside 2 = .ok (.istore_n 1, 1) := by decide +kernel
theorem dX12_setAside_3 : decode cX12_setAside 3 = .ok (.iload_n 1, 1) := by decide +kernel
theorem dX12_setAside_4 : decode cX12_setAside 4 = .ok (.bipush 70, 2) := by decide +kernel
theorem dX12_setAside_6 : decode cX12_setAside 6 = .ok (.if_icmp .ge 21, 3) := by decide +kernel
theorem dX12_setAside_9 : decode cX12_setAside 9 = .ok (.aload_n 0, 1) := by decide +kernel
theorem dX12_setAside_10 : decode cX12_setAside 10 = .ok (.getfield 50, 3) := by decide +kernel
theorem dX12_setAside_13 : decode cX12_setAside 13 = .ok (.iload_n 1, 1) := by decide +kernel
theorem dX12_setAside_14 : decode cX12_setAside 14 = .ok (.aload_n 0, 1) := by decide +kernel
theorem dX12_setAside_15 : decode cX12_setAside 15 = .ok (.getfield 7, 3) := by decide +kernel
theorem dX12_setAside_18 : decode cX12_setAside 18 = .ok (.iload_n 1, 1) := by decide +kernel
theorem dX12_setAside_19 : decode cX12_setAside 19 = .ok (.iaload, 1) := by decide +kernel
theorem dX12_setAside_20 : decode cX12_setAside 20 = .ok (.iastore, 1) := by decide +kernel
theorem dX12_setAside_21 : decode cX12_setAside 21 = .ok (.iinc 1 1, 3) := by decide +kernel
theorem dX12_setAside_24 : decode cX12_setAside 24 = .ok (.goto (-21), 3) := by decide +kernel
theorem dX12_setAside_27 : decode cX12_setAside 27 = .ok (.aload_n 0, 1) := by decide +kernel
theorem dX12_setAside_28 : decode cX12_setAside 28 = .ok (.iconst 0, 1) := by decide +kernel
theorem dX12_setAside_29 : decode cX12_setAside 29 = .ok (.putfield 46, 3) := by decide +kernel
theorem dX12_setAside_32 : decode cX12_setAside 32 = .ok (.return_, 1) := by decide +kernel
theorem dX12_putBack_0 : decode cX12_putBack 0 = .ok (.bipush 6, 2) := by decide +kernel
theorem dX12_putBack_2 : decode cX12_putBack 2 = .ok (.istore_n 1, 1) := by decide +kernel
theorem dX12_putBack_3 : decode cX12_putBack 3 = .ok (.iload_n 1, 1) := by decide +kernel
theorem dX12_putBack_4 : decode cX12_putBack 4 = .ok (.bipush 70, 2) := by decide +kernel
theorem dX12_putBack_6 : decode cX12_putBack 6 = .ok (.if_icmp .ge 21, 3) := by decide +kernel
theorem dX12_putBack_9 : decode cX12_putBack 9 = .ok (.aload_n 0, 1) := by decide +kernel
theorem dX12_putBack_10 : decode cX12_putBack 10 = .ok (.getfield 7, 3) := by decide +kernel
theorem dX12_putBack_13 : decode cX12_putBack 13 = .ok (.iload_n 1, 1) := by decide +kernel
theorem dX12_putBack_14 : decode cX12_putBack 14 = .ok (.aload_n 0, 1) := by decide +kernel
theorem dX12_putBack_15 : decode cX12_putBack 15 = .ok (.getfield 50, 3) := by decide +kernel
theorem dX12_putBack_18 : decode cX12_putBack 18 = .ok (.iload_n 1, 1) := by decide +kernel
theorem dX12_putBack_19 : decode cX12_putBack 19 = .ok (.iaload, 1) := by decide +kernel
theorem dX12_putBack_20 : decode cX12_putBack 20 = .ok (.iastore, 1) := by decide +kernel
theorem dX12_putBack_21 : decode cX12_putBack 21 = .ok (.iinc 1 1, 3) := by decide +kernel
theorem dX12_putBack_24 : decode cX12_putBack 24 = .ok (.goto (-21), 3) := by decide +kernel
theorem dX12_putBack_27 : decode cX12_putBack 27 = .ok (.aload_n 0, 1) := by decide +kernel
theorem dX12_putBack_28 : decode cX12_putBack 28 = .ok (.iconst 1, 1) := by decide +kernel
theorem dX12_putBack_29 : decode cX12_putBack 29 = .ok (.putfield 46, 3) := by decide +kernel
theorem dX12_putBack_32 : decode cX12_putBack 32 = .ok (.return_, 1) := by decide +kernel
theorem dX12_foretold_0 : decode cX12_foretold 0 = .ok (.iload_n 1, 1) := by decide +kernel
theorem dX12_foretold_1 : decode cX12_foretold 1 = .ok (.iconst 1, 1) := by decide +kernel
theorem dX12_foretold_2 : decode cX12_foretold 2 = .ok (.bipush 60, 2) := by decide +kernel
theorem dX12_foretold_4 : decode cX12_foretold 4 = .ok (.invokestatic 87, 3) := by decide +kernel
theorem dX12_foretold_7 : decode cX12_foretold 7 = .ok (.ifCond .eq 37, 3) := by decide +kernel
theorem dX12_foretold_10 : decode cX12_foretold 10 = .ok (.iload_n 2, 1) := by decide +kernel
theorem dX12_foretold_11 : decode cX12_foretold 11 = .ok (.iconst 0, 1) := by decide +kernel
theorem dX12_foretold_12 : decode cX12_foretold 12 = .ok (.iconst 2, 1) := by decide +kernel
theorem dX12_foretold_13 : decode cX12_foretold 13 = .ok (.invokestatic 87, 3) := by decide +kernel
theorem dX12_foretold_16 : decode cX12_foretold 16 = .ok (.ifCond .eq 28, 3) := by decide +kernel
theorem dX12_foretold_19 : decode cX12_foretold 19 = .ok (.iload_n 2, 1) := by decide +kernel
theorem dX12_foretold_20 : decode cX12_foretold 20 = .ok (.iconst 1, 1) := by decide +kernel
theorem dX12_foretold_21 : decode cX12_foretold 21 = .ok (.if_icmp .ne 11, 3) := by decide +kernel
theorem dX12_foretold_24 : decode cX12_foretold 24 = .ok (.aload_n 0, 1) := by decide +kernel
theorem dX12_foretold_25 : decode cX12_foretold 25 = .ok (.iload_n 3, 1) := by decide +kernel
theorem dX12_foretold_26 : decode cX12_foretold 26 = .ok (.invokevirtual 379, 3) := by decide +kernel
theorem dX12_foretold_29 : decode cX12_foretold 29 = .ok (.ifCond .eq 15, 3) := by decide +kernel
theorem dX12_foretold_32 : decode cX12_foretold 32 = .ok (.iload_n 2, 1) := by decide +kernel
theorem dX12_foretold_33 : decode cX12_foretold 33 = .ok (.iconst 2, 1) := by decide +kernel
theorem dX12_foretold_34 : decode cX12_foretold 34 = .ok (.if_icmp .ne 12, 3) := by decide +kernel
theorem dX12_foretold_37 : decode cX12_foretold 37 = .ok (.iload_n 3, 1) := by decide +kernel
theorem dX12_foretold_38 : decode cX12_foretold 38 = .ok (.invokestatic 91, 3) := by decide +kernel
theorem dX12_foretold_41 : decode cX12_foretold 41 = .ok (.ifCond .ne 5, 3) := by decide +kernel
theorem dX12_foretold_44 : decode cX12_foretold 44 = .ok (.iconst (-1), 1) := by decide +kernel
theorem dX12_foretold_45 : decode cX12_foretold 45 = .ok (.ireturn, 1) := by decide +kernel
theorem dX12_foretold_46 : decode cX12_foretold 46 = .ok (.aload_n 0, 1) := by decide +kernel
theorem dX12_foretold_47 : decode cX12_foretold 47 = .ok (.invokevirtual 426, 3) := by decide +kernel
theorem dX12_foretold_50 : decode cX12_foretold 50 = .ok (.iconst 0, 1) := by decide +kernel
theorem dX12_foretold_51 : decode cX12_foretold 51 = .ok (.istore 4, 2) := by decide +kernel
theorem dX12_foretold_53 : decode cX12_foretold 53 = .ok (.iload 4, 2) := by decide +kernel
theorem dX12_foretold_55 : decode cX12_foretold 55 = .ok (.iload_n 1, 1) := by decide +kernel
theorem dX12_foretold_56 : decode cX12_foretold 56 = .ok (.if_icmp .ge 26, 3) := by decide +kernel
theorem dX12_foretold_59 : decode cX12_foretold 59 = .ok (.aload_n 0, 1) := by decide +kernel
theorem dX12_foretold_60 : decode cX12_foretold 60 = .ok (.getfield 7, 3) := by decide +kernel
theorem dX12_foretold_63 : decode cX12_foretold 63 = .ok (.bipush 6, 2) := by decide +kernel
theorem dX12_foretold_65 : decode cX12_foretold 65 = .ok (.iaload, 1) := by decide +kernel
theorem dX12_foretold_66 : decode cX12_foretold 66 = .ok (.sipush 9999, 3) := by decide +kernel
theorem dX12_foretold_69 : decode cX12_foretold 69 = .ok (.if_icmp .ge 7, 3) := by decide +kernel
theorem dX12_foretold_72 : decode cX12_foretold 72 = .ok (.aload_n 0, 1) := by decide +kernel
theorem dX12_foretold_73 : decode cX12_foretold 73 = .ok (.invokevirtual 388, 3) := by decide +kernel
theorem dX12_foretold_76 : decode cX12_foretold 76 = .ok (.iinc 4 1, 3) := by decide +kernel
theorem dX12_foretold_79 : decode cX12_foretold 79 = .ok (.goto (-26), 3) := by decide +kernel
theorem dX12_foretold_82 : decode cX12_foretold 82 = .ok (.iload_n 2, 1) := by decide +kernel
theorem dX12_foretold_83 : decode cX12_foretold 83 = .ok (.ifCond .ne 13, 3) := by decide +kernel
theorem dX12_foretold_86 : decode cX12_foretold 86 = .ok (.aload_n 0, 1) := by decide +kernel
theorem dX12_foretold_87 : decode cX12_foretold 87 = .ok (.getfield 7, 3) := by decide +kernel
theorem dX12_foretold_90 : decode cX12_foretold 90 = .ok (.bipush 7, 2) := by decide +kernel
theorem dX12_foretold_92 : decode cX12_foretold 92 = .ok (.iaload, 1) := by decide +kernel
theorem dX12_foretold_93 : decode cX12_foretold 93 = .ok (.goto 26, 3) := by decide +kernel
theorem dX12_foretold_96 : decode cX12_foretold 96 = .ok (.iload_n 2, 1) := by decide +kernel
theorem dX12_foretold_97 : decode cX12_foretold 97 = .ok (.iconst 1, 1) := by decide +kernel
theorem dX12_foretold_98 : decode cX12_foretold 98 = .ok (.if_icmp .ne 12, 3) := by decide +kernel
theorem dX12_foretold_101 : decode cX12_foretold 101 = .ok (.aload_n 0, 1) := by decide +kernel
theorem dX12_foretold_102 : decode cX12_foretold 102 = .ok (.iload_n 3, 1) := by decide +kernel
theorem dX12_foretold_103 : decode cX12_foretold 103 = .ok (.iconst 2, 1) := by decide +kernel
theorem dX12_foretold_104 : decode cX12_foretold 104 = .ok (.invokevirtual 105, 3) := by decide +kernel
theorem dX12_foretold_107 : decode cX12_foretold 107 = .ok (.goto 12, 3) := by decide +kernel
theorem dX12_foretold_110 : decode cX12_foretold 110 = .ok (.aload_n 0, 1) := by decide +kernel
theorem dX12_foretold_111 : decode cX12_foretold 111 = .ok (.getfield 7, 3) := by decide +kernel
theorem dX12_foretold_114 : decode cX12_foretold 114 = .ok (.bipush 40, 2) := by decide +kernel
theorem dX12_foretold_116 : decode cX12_foretold 116 = .ok (.iload_n 3, 1) := by decide +kernel
theorem dX12_foretold_117 : decode cX12_foretold 117 = .ok (.iadd, 1) := by decide +kernel
theorem dX12_foretold_118 : decode cX12_foretold 118 = .ok (.iaload, 1) := by decide +kernel
theorem dX12_foretold_119 : decode cX12_foretold 119 = .ok (.istore 4, 2) := by decide +kernel
theorem dX12_foretold_121 : decode cX12_foretold 121 = .ok (.aload_n 0, 1) := by decide +kernel
theorem dX12_foretold_122 : decode cX12_foretold 122 = .ok (.invokevirtual 429, 3) := by decide +kernel
theorem dX12_foretold_125 : decode cX12_foretold 125 = .ok (.iload 4, 2) := by decide +kernel
theorem dX12_foretold_127 : decode cX12_foretold 127 = .ok (.ireturn, 1) := by decide +kernel
theorem dX12_isRainOn_0 : decode cX12_isRainOn 0 = .ok (.aload_n 0, 1) := by decide +kernel
theorem dX12_isRainOn_1 : decode cX12_isRainOn 1 = .ok (.invokevirtual 370, 3) := by decide +kernel
theorem dX12_isRainOn_4 : decode cX12_isRainOn 4 = .ok (.iload_n 1, 1) := by decide +kernel
theorem dX12_isRainOn_5 : decode cX12_isRainOn 5 = .ok (.if_icmp .ne 23, 3) := by decide +kernel
theorem dX12_isRainOn_8 : decode cX12_isRainOn 8 = .ok (.aload_n 0, 1) := by decide +kernel
theorem dX12_isRainOn_9 : decode cX12_isRainOn 9 = .ok (.iload_n 1, 1) := by decide +kernel
theorem dX12_isRainOn_10 : decode cX12_isRainOn 10 = .ok (.iconst 0, 1) := by decide +kernel
theorem dX12_isRainOn_11 : decode cX12_isRainOn 11 = .ok (.invokevirtual 105, 3) := by decide +kernel
theorem dX12_isRainOn_14 : decode cX12_isRainOn 14 = .ok (.aload_n 0, 1) := by decide +kernel
theorem dX12_isRainOn_15 : decode cX12_isRainOn 15 = .ok (.getfield 7, 3) := by decide +kernel
theorem dX12_isRainOn_18 : decode cX12_isRainOn 18 = .ok (.bipush 7, 2) := by decide +kernel
theorem dX12_isRainOn_20 : decode cX12_isRainOn 20 = .ok (.iaload, 1) := by decide +kernel
theorem dX12_isRainOn_21 : decode cX12_isRainOn 21 = .ok (.if_icmp .ne 7, 3) := by decide +kernel
theorem dX12_isRainOn_24 : decode cX12_isRainOn 24 = .ok (.iconst 1, 1) := by decide +kernel
theorem dX12_isRainOn_25 : decode cX12_isRainOn 25 = .ok (.goto 4, 3) := by decide +kernel
theorem dX12_isRainOn_28 : decode cX12_isRainOn 28 = .ok (.iconst 0, 1) := by decide +kernel
theorem dX12_isRainOn_29 : decode cX12_isRainOn 29 = .ok (.istore_n 2, 1) := by decide +kernel
theorem dX12_isRainOn_30 : decode cX12_isRainOn 30 = .ok (.aload_n 0, 1) := by decide +kernel
theorem dX12_isRainOn_31 : decode cX12_isRainOn 31 = .ok (.invokevirtual 388, 3) := by decide +kernel
theorem dX12_isRainOn_34 : decode cX12_isRainOn 34 = .ok (.iload_n 2, 1) := by decide +kernel
theorem dX12_isRainOn_35 : decode cX12_isRainOn 35 = .ok (.ireturn, 1) := by decide +kernel
theorem dX12_when_0 : decode cX12_when 0 = .ok (.aload_n 0, 1) := by decide +kernel
theorem dX12_when_1 : decode cX12_when 1 = .ok (.iload_n 1, 1) := by decide +kernel
theorem dX12_when_2 : decode cX12_when 2 = .ok (.invokevirtual 379, 3) := by decide +kernel
theorem dX12_when_5 : decode cX12_when 5 = .ok (.ifCond .ne 5, 3) := by decide +kernel
theorem dX12_when_8 : decode cX12_when 8 = .ok (.iconst (-1), 1) := by decide +kernel
theorem dX12_when_9 : decode cX12_when 9 = .ok (.ireturn, 1) := by decide +kernel
theorem dX12_when_10 : decode cX12_when 10 = .ok (.aload_n 0, 1) := by decide +kernel
theorem dX12_when_11 : decode cX12_when 11 = .ok (.invokevirtual 426, 3) := by decide +kernel
theorem dX12_when_14 : decode cX12_when 14 = .ok (.iconst (-1), 1) := by decide +kernel
theorem dX12_when_15 : decode cX12_when 15 = .ok (.istore_n 2, 1) := by decide +kernel
theorem dX12_when_16 : decode cX12_when 16 = .ok (.iconst 1, 1) := by decide +kernel
theorem dX12_when_17 : decode cX12_when 17 = .ok (.istore_n 3, 1) := by decide +kernel
theorem dX12_when_18 : decode cX12_when 18 = .ok (.iload_n 3, 1) := by decide +kernel
theorem dX12_when_19 : decode cX12_when 19 = .ok (.bipush 60, 2) := by decide +kernel
theorem dX12_when_21 : decode cX12_when 21 = .ok (.if_icmp .gt 37, 3) := by decide +kernel
theorem dX12_when_24 : decode cX12_when 24 = .ok (.iload_n 2, 1) := by decide +kernel
theorem dX12_when_25 : decode cX12_when 25 = .ok (.iconst (-1), 1) := by decide +kernel
theorem dX12_when_26 : decode cX12_when 26 = .ok (.if_icmp .ne 32, 3) := by decide +kernel
theorem dX12_when_29 : decode cX12_when 29 = .ok (.aload_n 0, 1) := by decide +kernel
theorem dX12_when_30 : decode cX12_when 30 = .ok (.getfield 7, 3) := by decide +kernel
theorem dX12_when_33 : decode cX12_when 33 = .ok (.bipush 6, 2) := by decide +kernel
theorem dX12_when_35 : decode cX12_when 35 = .ok (.iaload, 1) := by decide +kernel
theorem dX12_when_36 : decode cX12_when 36 = .ok (.sipush 9999, 3) := by decide +kernel
theorem dX12_when_39 : decode cX12_when 39 = .ok (.if_icmp .ge 19, 3) := by decide +kernel
theorem dX12_when_42 : decode cX12_when 42 = .ok (.aload_n 0, 1) := by decide +kernel
theorem dX12_when_43 : decode cX12_when 43 = .ok (.iload_n 1, 1) := by decide +kernel
theorem dX12_when_44 : decode cX12_when 44 = .ok (.invokevirtual 432, 3) := by decide +kernel
theorem dX12_when_47 : decode cX12_when 47 = .ok (.ifCond .eq 5, 3) := by decide +kernel
theorem dX12_when_50 : decode cX12_when 50 = .ok (.iload_n 3, 1) := by decide +kernel
theorem dX12_when_51 : decode cX12_when 51 = .ok (.istore_n 2, 1) := by decide +kernel
theorem dX12_when_52 : decode cX12_when 52 = .ok (.iinc 3 1, 3) := by decide +kernel
theorem dX12_when_55 : decode cX12_when 55 = .ok (.goto (-37), 3) := by decide +kernel
theorem dX12_when_58 : decode cX12_when 58 = .ok (.aload_n 0, 1) := by decide +kernel
theorem dX12_when_59 : decode cX12_when 59 = .ok (.invokevirtual 429, 3) := by decide +kernel
theorem dX12_when_62 : decode cX12_when 62 = .ok (.iload_n 2, 1) := by decide +kernel
theorem dX12_when_63 : decode cX12_when 63 = .ok (.ireturn, 1) := by decide +kernel
theorem dX12_steps_0 : decode cX12_steps 0 = .ok (.iload_n 1, 1) := by decide +kernel
theorem dX12_steps_1 : decode cX12_steps 1 = .ok (.invokestatic 91, 3) := by decide +kernel
theorem dX12_steps_4 : decode cX12_steps 4 = .ok (.ifCond .eq 19, 3) := by decide +kernel
theorem dX12_steps_7 : decode cX12_steps 7 = .ok (.iload_n 2, 1) := by decide +kernel
theorem dX12_steps_8 : decode cX12_steps 8 = .ok (.invokestatic 91, 3) := by decide +kernel
theorem dX12_steps_11 : decode cX12_steps 11 = .ok (.ifCond .eq 12, 3) := by decide +kernel
theorem dX12_steps_14 : decode cX12_steps 14 = .ok (.aload_n 0, 1) := by decide +kernel
theorem dX12_steps_15 : decode cX12_steps 15 = .ok (.iload_n 1, 1) := by decide +kernel
theorem dX12_steps_16 : decode cX12_steps 16 = .ok (.iload_n 2, 1) := by decide +kernel
theorem dX12_steps_17 : decode cX12_steps 17 = .ok (.invokevirtual 330, 3) := by decide +kernel
theorem dX12_steps_20 : decode cX12_steps 20 = .ok (.goto 4, 3) := by decide +kernel
theorem dX12_steps_23 : decode cX12_steps 23 = .ok (.iconst (-1), 1) := by decide +kernel
theorem dX12_steps_24 : decode cX12_steps 24 = .ok (.ireturn, 1) := by decide +kernel
theorem dX12_way_0 : decode cX12_way 0 = .ok (.iload_n 1, 1) := by decide +kernel
theorem dX12_way_1 : decode cX12_way 1 = .ok (.invokestatic 91, 3) := by decide +kernel
theorem dX12_way_4 : decode cX12_way 4 = .ok (.ifCond .eq 10, 3) := by decide +kernel
theorem dX12_way_7 : decode cX12_way 7 = .ok (.iload_n 2, 1) := by decide +kernel
theorem dX12_way_8 : decode cX12_way 8 = .ok (.invokestatic 91, 3) := by decide +kernel
theorem dX12_way_11 : decode cX12_way 11 = .ok (.ifCond .ne 6, 3) := by decide +kernel
theorem dX12_way_14 : decode cX12_way 14 = .ok (.bipush (-2), 2) := by decide +kernel
theorem dX12_way_16 : decode cX12_way 16 = .ok (.ireturn, 1) := by decide +kernel
theorem dX12_way_17 : decode cX12_way 17 = .ok (.aload_n 0, 1) := by decide +kernel
theorem dX12_way_18 : decode cX12_way 18 = .ok (.iload_n 1, 1) := by decide +kernel
theorem dX12_way_19 : decode cX12_way 19 = .ok (.iload_n 2, 1) := by decide +kernel
theorem dX12_way_20 : decode cX12_way 20 = .ok (.invokevirtual 330, 3) := by decide +kernel
theorem dX12_way_23 : decode cX12_way 23 = .ok (.istore 4, 2) := by decide +kernel
theorem dX12_way_25 : decode cX12_way 25 = .ok (.iload 4, 2) := by decide +kernel
theorem dX12_way_27 : decode cX12_way 27 = .ok (.iconst (-1), 1) := by decide +kernel
theorem dX12_way_28 : decode cX12_way 28 = .ok (.if_icmp .eq 15, 3) := by decide +kernel
theorem dX12_way_31 : decode cX12_way 31 = .ok (.iload_n 3, 1) := by decide +kernel
theorem dX12_way_32 : decode cX12_way 32 = .ok (.iconst 0, 1) := by decide +kernel
theorem dX12_way_33 : decode cX12_way 33 = .ok (.iload 4, 2) := by decide +kernel
theorem dX12_way_35 : decode cX12_way 35 = .ok (.iconst 1, 1) := by decide +kernel
theorem dX12_way_36 : decode cX12_way 36 = .ok (.isub, 1) := by decide +kernel
theorem dX12_way_37 : decode cX12_way 37 = .ok (.invokestatic 87, 3) := by decide +kernel
theorem dX12_way_40 : decode cX12_way 40 = .ok (.ifCond .ne 6, 3) := by decide +kernel
theorem dX12_way_43 : decode cX12_way 43 = .ok (.bipush (-2), 2) := by decide +kernel
theorem dX12_way_45 : decode cX12_way 45 = .ok (.ireturn, 1) := by decide +kernel
theorem dX12_way_46 : decode cX12_way 46 = .ok (.iload_n 1, 1) := by decide +kernel
theorem dX12_way_47 : decode cX12_way 47 = .ok (.istore 5, 2) := by decide +kernel
theorem dX12_way_49 : decode cX12_way 49 = .ok (.iconst 0, 1) := by decide +kernel
theorem dX12_way_50 : decode cX12_way 50 = .ok (.istore 6, 2) := by decide +kernel
theorem dX12_way_52 : decode cX12_way 52 = .ok (.iload 6, 2) := by decide +kernel
theorem dX12_way_54 : decode cX12_way 54 = .ok (.iload_n 3, 1) := by decide +kernel
theorem dX12_way_55 : decode cX12_way 55 = .ok (.if_icmp .gt 18, 3) := by decide +kernel
theorem dX12_way_58 : decode cX12_way 58 = .ok (.aload_n 0, 1) := by decide +kernel
theorem dX12_way_59 : decode cX12_way 59 = .ok (.iload 5, 2) := by decide +kernel
theorem dX12_way_61 : decode cX12_way 61 = .ok (.iload_n 2, 1) := by decide +kernel
theorem dX12_way_62 : decode cX12_way 62 = .ok (.invokevirtual 364, 3) := by decide +kernel
theorem dX12_way_65 : decode cX12_way 65 = .ok (.istore 5, 2) := by decide +kernel
theorem dX12_way_67 : decode cX12_way 67 = .ok (.iinc 6 1, 3) := by decide +kernel
theorem dX12_way_70 : decode cX12_way 70 = .ok (.goto (-18), 3) := by decide +kernel
theorem dX12_way_73 : decode cX12_way 73 = .ok (.iload 5, 2) := by decide +kernel
theorem dX12_way_75 : decode cX12_way 75 = .ok (.ireturn, 1) := by decide +kernel
theorem dX12_layReach_0 : decode cX12_layReach 0 = .ok (.iconst 0, 1) := by decide +kernel
theorem dX12_layReach_1 : decode cX12_layReach 1 = .ok (.istore_n 2, 1) := by decide +kernel
theorem dX12_layReach_2 : decode cX12_layReach 2 = .ok (.iload_n 2, 1) := by decide +kernel
theorem dX12_layReach_3 : decode cX12_layReach 3 = .ok (.bipush 30, 2) := by decide +kernel
theorem dX12_layReach_5 : decode cX12_layReach 5 = .ok (.if_icmp .ge 66, 3) := by decide +kernel
theorem dX12_layReach_8 : decode cX12_layReach 8 = .ok (.aload_n 0, 1) := by decide +kernel
theorem dX12_layReach_9 : decode cX12_layReach 9 = .ok (.getfield 56, 3) := by decide +kernel
theorem dX12_layReach_12 : decode cX12_layReach 12 = .ok (.iload_n 2, 1) := by decide +kernel
theorem dX12_layReach_13 : decode cX12_layReach 13 = .ok (.aload_n 0, 1) := by decide +kernel
theorem dX12_layReach_14 : decode cX12_layReach 14 = .ok (.iload_n 2, 1) := by decide +kernel
theorem dX12_layReach_15 : decode cX12_layReach 15 = .ok (.invokevirtual 99, 3) := by decide +kernel
theorem dX12_layReach_18 : decode cX12_layReach 18 = .ok (.ifCond .eq 9, 3) := by decide +kernel
theorem dX12_layReach_21 : decode cX12_layReach 21 = .ok (.iconst 1, 1) := by decide +kernel
theorem dX12_layReach_22 : decode cX12_layReach 22 = .ok (.iload_n 2, 1) := by decide +kernel
theorem dX12_layReach_23 : decode cX12_layReach 23 = .ok (.ishl, 1) := by decide +kernel
theorem dX12_layReach_24 : decode cX12_layReach 24 = .ok (.goto 4, 3) := by decide +kernel
theorem dX12_layReach_27 : decode cX12_layReach 27 = .ok (.iconst 0, 1) := by decide +kernel
theorem dX12_layReach_28 : decode cX12_layReach 28 = .ok (.iastore, 1) := by decide +kernel
theorem dX12_layReach_29 : decode cX12_layReach 29 = .ok (.iconst 0, 1) := by decide +kernel
theorem dX12_layReach_30 : decode cX12_layReach 30 = .ok (.istore_n 3, 1) := by decide +kernel
theorem dX12_layReach_31 : decode cX12_layReach 31 = .ok (.iload_n 3, 1) := by decide +kernel
theorem dX12_layReach_32 : decode cX12_layReach 32 = .ok (.iload_n 1, 1) := by decide +kernel
theorem dX12_layReach_33 : decode cX12_layReach 33 = .ok (.if_icmp .ge 32, 3) := by decide +kernel
theorem dX12_layReach_36 : decode cX12_layReach 36 = .ok (.aload_n 0, 1) := by decide +kernel
theorem dX12_layReach_37 : decode cX12_layReach 37 = .ok (.getfield 56, 3) := by decide +kernel
theorem dX12_layReach_40 : decode cX12_layReach 40 = .ok (.iload_n 2, 1) := by decide +kernel
theorem dX12_layReach_41 : decode cX12_layReach 41 = .ok (.dup2, 1) := by decide +kernel
theorem dX12_layReach_42 : decode cX12_layReach 42 = .ok (.iaload, 1) := by decide +kernel
theorem dX12_layReach_43 : decode cX12_layReach 43 = .ok (.aload_n 0, 1) := by decide +kernel
theorem dX12_layReach_44 : decode cX12_layReach 44 = .ok (.getfield 56, 3) := by decide +kernel
theorem dX12_layReach_47 : decode cX12_layReach 47 = .ok (.iload_n 2, 1) := by decide +kernel
theorem dX12_layReach_48 : decode cX12_layReach 48 = .ok (.iaload, 1) := by decide +kernel
theorem dX12_layReach_49 : decode cX12_layReach 49 = .ok (.invokestatic 321, 3) := by decide +kernel
theorem dX12_layReach_52 : decode cX12_layReach 52 = .ok (.aload_n 0, 1) := by decide +kernel
theorem dX12_layReach_53 : decode cX12_layReach 53 = .ok (.invokevirtual 324, 3) := by decide +kernel
theorem dX12_layReach_56 : decode cX12_layReach 56 = .ok (.iand, 1) := by decide +kernel
theorem dX12_layReach_57 : decode cX12_layReach 57 = .ok (.ior, 1) := by decide +kernel
theorem dX12_layReach_58 : decode cX12_layReach 58 = .ok (.iastore, 1) := by decide +kernel
theorem dX12_layReach_59 : decode cX12_layReach 59 = .ok (.iinc 3 1, 3) := by decide +kernel
theorem dX12_layReach_62 : decode cX12_layReach 62 = .ok (.goto (-31), 3) := by decide +kernel
theorem dX12_layReach_65 : decode cX12_layReach 65 = .ok (.iinc 2 1, 3) := by decide +kernel
theorem dX12_layReach_68 : decode cX12_layReach 68 = .ok (.goto (-66), 3) := by decide +kernel
theorem dX12_layReach_71 : decode cX12_layReach 71 = .ok (.return_, 1) := by decide +kernel
theorem dX12_turnsBehind_0 : decode cX12_turnsBehind 0 = .ok (.aload_n 0, 1) := by decide +kernel
theorem dX12_turnsBehind_1 : decode cX12_turnsBehind 1 = .ok (.getfield 56, 3) := by decide +kernel
theorem dX12_turnsBehind_4 : decode cX12_turnsBehind 4 = .ok (.iload_n 2, 1) := by decide +kernel
theorem dX12_turnsBehind_5 : decode cX12_turnsBehind 5 = .ok (.iaload, 1) := by decide +kernel
theorem dX12_turnsBehind_6 : decode cX12_turnsBehind 6 = .ok (.iload_n 1, 1) := by decide +kernel
theorem dX12_turnsBehind_7 : decode cX12_turnsBehind 7 = .ok (.invokestatic 270, 3) := by decide +kernel
theorem dX12_turnsBehind_10 : decode cX12_turnsBehind 10 = .ok (.ifCond .eq 5, 3) := by decide +kernel
theorem dX12_turnsBehind_13 : decode cX12_turnsBehind 13 = .ok (.iconst 1, 1) := by decide +kernel
theorem dX12_turnsBehind_14 : decode cX12_turnsBehind 14 = .ok (.ireturn, 1) := by decide +kernel
theorem dX12_turnsBehind_15 : decode cX12_turnsBehind 15 = .ok (.ldc_w 435, 3) := by decide +kernel
theorem dX12_turnsBehind_18 : decode cX12_turnsBehind 18 = .ok (.istore_n 3, 1) := by decide +kernel
theorem dX12_turnsBehind_19 : decode cX12_turnsBehind 19 = .ok (.iconst 0, 1) := by decide +kernel
theorem dX12_turnsBehind_20 : decode cX12_turnsBehind 20 = .ok (.istore 4, 2) := by decide +kernel
theorem dX12_turnsBehind_22 : decode cX12_turnsBehind 22 = .ok (.iload 4, 2) := by decide +kernel
theorem dX12_turnsBehind_24 : decode cX12_turnsBehind 24 = .ok (.bipush 30, 2) := by decide +kernel
theorem dX12_turnsBehind_26 : decode cX12_turnsBehind 26 = .ok (.if_icmp .ge 52, 3) := by decide +kernel
theorem dX12_turnsBehind_29 : decode cX12_turnsBehind 29 = .ok (.aload_n 0, 1) := by decide +kernel
theorem dX12_turnsBehind_30 : decode cX12_turnsBehind 30 = .ok (.getfield 56, 3) := by decide +kernel
theorem dX12_turnsBehind_33 : decode cX12_turnsBehind 33 = .ok (.iload_n 2, 1) := by decide +kernel
theorem dX12_turnsBehind_34 : decode cX12_turnsBehind 34 = .ok (.iaload, 1) := by decide +kernel
theorem dX12_turnsBehind_35 : decode cX12_turnsBehind 35 = .ok (.iload 4, 2) := by decide +kernel
theorem dX12_turnsBehind_37 : decode cX12_turnsBehind 37 = .ok (.invokestatic 270, 3) := by decide +kernel
theorem dX12_turnsBehind_40 : decode cX12_turnsBehind 40 = .ok (.ifCond .eq 32, 3) := by decide +kernel
theorem dX12_turnsBehind_43 : decode cX12_turnsBehind 43 = .ok (.aload_n 0, 1) := by decide +kernel
theorem dX12_turnsBehind_44 : decode cX12_turnsBehind 44 = .ok (.getfield 53, 3) := by decide +kernel
theorem dX12_turnsBehind_47 : decode cX12_turnsBehind 47 = .ok (.bipush 30, 2) := by decide +kernel
theorem dX12_turnsBehind_49 : decode cX12_turnsBehind 49 = .ok (.iload_n 1, 1) := by decide +kernel
theorem dX12_turnsBehind_50 : decode cX12_turnsBehind 50 = .ok (.imul, 1) := by decide +kernel
theorem dX12_turnsBehind_51 : decode cX12_turnsBehind 51 = .ok (.iload 4, 2) := by decide +kernel
theorem dX12_turnsBehind_53 : decode cX12_turnsBehind 53 = .ok (.iadd, 1) := by decide +kernel
theorem dX12_turnsBehind_54 : decode cX12_turnsBehind 54 = .ok (.iaload, 1) := by decide +kernel
theorem dX12_turnsBehind_55 : decode cX12_turnsBehind 55 = .ok (.iload_n 3, 1) := by decide +kernel
theorem dX12_turnsBehind_56 : decode cX12_turnsBehind 56 = .ok (.if_icmp .ge 16, 3) := by decide +kernel
theorem dX12_turnsBehind_59 : decode cX12_turnsBehind 59 = .ok (.aload_n 0, 1) := by decide +kernel
theorem dX12_turnsBehind_60 : decode cX12_turnsBehind 60 = .ok (.getfield 53, 3) := by decide +kernel
theorem dX12_turnsBehind_63 : decode cX12_turnsBehind 63 = .ok (.bipush 30, 2) := by decide +kernel
theorem dX12_turnsBehind_65 : decode cX12_turnsBehind 65 = .ok (.iload_n 1, 1) := by decide +kernel
theorem dX12_turnsBehind_66 : decode cX12_turnsBehind 66 = .ok (.imul, 1) := by decide +kernel
theorem dX12_turnsBehind_67 : decode cX12_turnsBehind 67 = .ok (.iload 4, 2) := by decide +kernel
theorem dX12_turnsBehind_69 : decode cX12_turnsBehind 69 = .ok (.iadd, 1) := by decide +kernel
theorem dX12_turnsBehind_70 : decode cX12_turnsBehind 70 = .ok (.iaload, 1) := by decide +kernel
theorem dX12_turnsBehind_71 : decode cX12_turnsBehind 71 = .ok (.istore_n 3, 1) := by decide +kernel
theorem dX12_turnsBehind_72 : decode cX12_turnsBehind 72 = .ok (.iinc 4 1, 3) := by decide +kernel
theorem dX12_turnsBehind_75 : decode cX12_turnsBehind 75 = .ok (.goto (-53), 3) := by decide +kernel
theorem dX12_turnsBehind_78 : decode cX12_turnsBehind 78 = .ok (.iload_n 3, 1) := by decide +kernel
theorem dX12_turnsBehind_79 : decode cX12_turnsBehind 79 = .ok (.ldc_w 435, 3) := by decide +kernel
theorem dX12_turnsBehind_82 : decode cX12_turnsBehind 82 = .ok (.if_icmp .ne 9, 3) := by decide +kernel
theorem dX12_turnsBehind_85 : decode cX12_turnsBehind 85 = .ok (.ldc_w 435, 3) := by decide +kernel
theorem dX12_turnsBehind_88 : decode cX12_turnsBehind 88 = .ok (.goto 6, 3) := by decide +kernel
theorem dX12_turnsBehind_91 : decode cX12_turnsBehind 91 = .ok (.iload_n 3, 1) := by decide +kernel
theorem dX12_turnsBehind_92 : decode cX12_turnsBehind 92 = .ok (.iconst 1, 1) := by decide +kernel
theorem dX12_turnsBehind_93 : decode cX12_turnsBehind 93 = .ok (.iadd, 1) := by decide +kernel
theorem dX12_turnsBehind_94 : decode cX12_turnsBehind 94 = .ok (.ireturn, 1) := by decide +kernel
theorem dX12_goals_0 : decode cX12_goals 0 = .ok (.iload_n 1, 1) := by decide +kernel
theorem dX12_goals_1 : decode cX12_goals 1 = .ok (.invokestatic 361, 3) := by decide +kernel
theorem dX12_goals_4 : decode cX12_goals 4 = .ok (.iconst 1, 1) := by decide +kernel
theorem dX12_goals_5 : decode cX12_goals 5 = .ok (.iload_n 1, 1) := by decide +kernel
theorem dX12_goals_6 : decode cX12_goals 6 = .ok (.ishl, 1) := by decide +kernel
theorem dX12_goals_7 : decode cX12_goals 7 = .ok (.ior, 1) := by decide +kernel
theorem dX12_goals_8 : decode cX12_goals 8 = .ok (.aload_n 0, 1) := by decide +kernel
theorem dX12_goals_9 : decode cX12_goals 9 = .ok (.invokevirtual 324, 3) := by decide +kernel
theorem dX12_goals_12 : decode cX12_goals 12 = .ok (.iand, 1) := by decide +kernel
theorem dX12_goals_13 : decode cX12_goals 13 = .ok (.ireturn, 1) := by decide +kernel
theorem dX12_longest_0 : decode cX12_longest 0 = .ok (.iconst 0, 1) := by decide +kernel
theorem dX12_longest_1 : decode cX12_longest 1 = .ok (.istore_n 3, 1) := by decide +kernel
theorem dX12_longest_2 : decode cX12_longest 2 = .ok (.iconst 0, 1) := by decide +kernel
theorem dX12_longest_3 : decode cX12_longest 3 = .ok (.istore 4, 2) := by decide +kernel
theorem dX12_longest_5 : decode cX12_longest 5 = .ok (.iload 4, 2) := by decide +kernel
theorem dX12_longest_7 : decode cX12_longest 7 = .ok (.bipush 30, 2) := by decide +kernel
theorem dX12_longest_9 : decode cX12_longest 9 = .ok (.if_icmp .ge 48, 3) := by decide +kernel
theorem dX12_longest_12 : decode cX12_longest 12 = .ok (.aload_n 0, 1) := by decide +kernel
theorem dX12_longest_13 : decode cX12_longest 13 = .ok (.iload_n 1, 1) := by decide +kernel
theorem dX12_longest_14 : decode cX12_longest 14 = .ok (.invokevirtual 436, 3) := by decide +kernel
theorem dX12_longest_17 : decode cX12_longest 17 = .ok (.iload 4, 2) := by decide +kernel
theorem dX12_longest_19 : decode cX12_longest 19 = .ok (.invokestatic 270, 3) := by decide +kernel
theorem dX12_longest_22 : decode cX12_longest 22 = .ok (.ifCond .eq 13, 3) := by decide +kernel
theorem dX12_longest_25 : decode cX12_longest 25 = .ok (.aload_n 0, 1) := by decide +kernel
theorem dX12_longest_26 : decode cX12_longest 26 = .ok (.iload 4, 2) := by decide +kernel
theorem dX12_longest_28 : decode cX12_longest 28 = .ok (.iload_n 2, 1) := by decide +kernel
theorem dX12_longest_29 : decode cX12_longest 29 = .ok (.invokevirtual 439, 3) := by decide +kernel
theorem dX12_longest_32 : decode cX12_longest 32 = .ok (.goto 4, 3) := by decide +kernel
theorem dX12_longest_35 : decode cX12_longest 35 = .ok (.iconst 0, 1) := by decide +kernel
theorem dX12_longest_36 : decode cX12_longest 36 = .ok (.istore 5, 2) := by decide +kernel
theorem dX12_longest_38 : decode cX12_longest 38 = .ok (.iload 5, 2) := by decide +kernel
theorem dX12_longest_40 : decode cX12_longest 40 = .ok (.iload_n 3, 1) := by decide +kernel
theorem dX12_longest_41 : decode cX12_longest 41 = .ok (.if_icmp .le 8, 3) := by decide +kernel
theorem dX12_longest_44 : decode cX12_longest 44 = .ok (.iload 5, 2) := by decide +kernel
theorem dX12_longest_46 : decode cX12_longest 46 = .ok (.goto 4, 3) := by decide +kernel
theorem dX12_longest_49 : decode cX12_longest 49 = .ok (.iload_n 3, 1) := by decide +kernel
theorem dX12_longest_50 : decode cX12_longest 50 = .ok (.istore_n 3, 1) := by decide +kernel
theorem dX12_longest_51 : decode cX12_longest 51 = .ok (.iinc 4 1, 3) := by decide +kernel
theorem dX12_longest_54 : decode cX12_longest 54 = .ok (.goto (-49), 3) := by decide +kernel
theorem dX12_longest_57 : decode cX12_longest 57 = .ok (.iload_n 3, 1) := by decide +kernel
theorem dX12_longest_58 : decode cX12_longest 58 = .ok (.ireturn, 1) := by decide +kernel
theorem dX12_layTurns_0 : decode cX12_layTurns 0 = .ok (.aload_n 0, 1) := by decide +kernel
theorem dX12_layTurns_1 : decode cX12_layTurns 1 = .ok (.iload_n 1, 1) := by decide +kernel
theorem dX12_layTurns_2 : decode cX12_layTurns 2 = .ok (.invokevirtual 442, 3) := by decide +kernel
theorem dX12_layTurns_5 : decode cX12_layTurns 5 = .ok (.aload_n 0, 1) := by decide +kernel
theorem dX12_layTurns_6 : decode cX12_layTurns 6 = .ok (.invokevirtual 324, 3) := by decide +kernel
theorem dX12_layTurns_9 : decode cX12_layTurns 9 = .ok (.istore_n 2, 1) := by decide +kernel
theorem dX12_layTurns_10 : decode cX12_layTurns 10 = .ok (.iconst 0, 1) := by decide +kernel
theorem dX12_layTurns_11 : decode cX12_layTurns 11 = .ok (.istore_n 3, 1) := by decide +kernel
theorem dX12_layTurns_12 : decode cX12_layTurns 12 = .ok (.iload_n 3, 1) := by decide +kernel
theorem dX12_layTurns_13 : decode cX12_layTurns 13 = .ok (.sipush 900, 3) := by decide +kernel
theorem dX12_layTurns_16 : decode cX12_layTurns 16 = .ok (.if_icmp .ge 33, 3) := by decide +kernel
theorem dX12_layTurns_19 : decode cX12_layTurns 19 = .ok (.aload_n 0, 1) := by decide +kernel
theorem dX12_layTurns_20 : decode cX12_layTurns 20 = .ok (.getfield 53, 3) := by decide +kernel
theorem dX12_layTurns_23 : decode cX12_layTurns 23 = .ok (.iload_n 3, 1) := by decide +kernel
theorem dX12_layTurns_24 : decode cX12_layTurns 24 = .ok (.iload_n 3, 1) := by decide +kernel
theorem dX12_layTurns_25 : decode cX12_layTurns 25 = .ok (.bipush 30, 2) := by decide +kernel
theorem dX12_layTurns_27 : decode cX12_layTurns 27 = .ok (.idiv, 1) := by decide +kernel
theorem dX12_layTurns_28 : decode cX12_layTurns 28 = .ok (.iload_n 3, 1) := by decide +kernel
theorem dX12_layTurns_29 : decode cX12_layTurns 29 = .ok (.bipush 30, 2) := by decide +kernel
theorem dX12_layTurns_31 : decode cX12_layTurns 31 = .ok (.irem, 1) := by decide +kernel
theorem dX12_layTurns_32 : decode cX12_layTurns 32 = .ok (.if_icmp .ne 7, 3) := by decide +kernel
theorem dX12_layTurns_35 : decode cX12_layTurns 35 = .ok (.iconst 0, 1) := by decide +kernel
theorem dX12_layTurns_36 : decode cX12_layTurns 36 = .ok (.goto 6, 3) := by decide +kernel
theorem dX12_layTurns_39 : decode cX12_layTurns 39 = .ok (.ldc_w 435, 3) := by decide +kernel
theorem dX12_layTurns_42 : decode cX12_layTurns 42 = .ok (.iastore, 1) := by decide +kernel
theorem dX12_layTurns_43 : decode cX12_layTurns 43 = .ok (.iinc 3 1, 3) := by decide +kernel
theorem dX12_layTurns_46 : decode cX12_layTurns 46 = .ok (.goto (-34), 3) := by decide +kernel
theorem dX12_layTurns_49 : decode cX12_layTurns 49 = .ok (.iconst 1, 1) := by decide +kernel
theorem dX12_layTurns_50 : decode cX12_layTurns 50 = .ok (.istore_n 3, 1) := by decide +kernel
theorem dX12_layTurns_51 : decode cX12_layTurns 51 = .ok (.iconst 1, 1) := by decide +kernel
theorem dX12_layTurns_52 : decode cX12_layTurns 52 = .ok (.istore 4, 2) := by decide +kernel
theorem dX12_layTurns_54 : decode cX12_layTurns 54 = .ok (.iload_n 3, 1) := by decide +kernel
theorem dX12_layTurns_55 : decode cX12_layTurns 55 = .ok (.ifCond .eq 98, 3) := by decide +kernel
theorem dX12_layTurns_58 : decode cX12_layTurns 58 = .ok (.iconst 0, 1) := by decide +kernel
theorem dX12_layTurns_59 : decode cX12_layTurns 59 = .ok (.istore_n 3, 1) := by decide +kernel
theorem dX12_layTurns_60 : decode cX12_layTurns 60 = .ok (.iconst 0, 1) := by decide +kernel
theorem dX12_layTurns_61 : decode cX12_layTurns 61 = .ok (.istore 5, 2) := by decide +kernel
theorem dX12_layTurns_63 : decode cX12_layTurns 63 = .ok (.iload 5, 2) := by decide +kernel
theorem dX12_layTurns_65 : decode cX12_layTurns 65 = .ok (.sipush 900, 3) := by decide +kernel
theorem dX12_layTurns_68 : decode cX12_layTurns 68 = .ok (.if_icmp .ge 79, 3) := by decide +kernel
theorem dX12_layTurns_71 : decode cX12_layTurns 71 = .ok (.aload_n 0, 1) := by decide +kernel
theorem dX12_layTurns_72 : decode cX12_layTurns 72 = .ok (.getfield 53, 3) := by decide +kernel
theorem dX12_layTurns_75 : decode cX12_layTurns 75 = .ok (.iload 5, 2) := by decide +kernel
theorem dX12_layTurns_77 : decode cX12_layTurns 77 = .ok (.iaload, 1) := by decide +kernel
theorem dX12_layTurns_78 : decode cX12_layTurns 78 = .ok (.ldc_w 435, 3) := by decide +kernel
theorem dX12_layTurns_81 : decode cX12_layTurns 81 = .ok (.if_icmp .ne 60, 3) := by decide +kernel
theorem dX12_layTurns_84 : decode cX12_layTurns 84 = .ok (.iload_n 2, 1) := by decide +kernel
theorem dX12_layTurns_85 : decode cX12_layTurns 85 = .ok (.iload 5, 2) := by decide +kernel
theorem dX12_layTurns_87 : decode cX12_layTurns 87 = .ok (.bipush 30, 2) := by decide +kernel
theorem dX12_layTurns_89 : decode cX12_layTurns 89 = .ok (.idiv, 1) := by decide +kernel
theorem dX12_layTurns_90 : decode cX12_layTurns 90 = .ok (.invokestatic 270, 3) := by decide +kernel
theorem dX12_layTurns_93 : decode cX12_layTurns 93 = .ok (.ifCond .eq 48, 3) := by decide +kernel
theorem dX12_layTurns_96 : decode cX12_layTurns 96 = .ok (.iload_n 2, 1) := by decide +kernel
theorem dX12_layTurns_97 : decode cX12_layTurns 97 = .ok (.iload 5, 2) := by decide +kernel
theorem dX12_layTurns_99 : decode cX12_layTurns 99 = .ok (.bipush 30, 2) := by decide +kernel
theorem dX12_layTurns_101 : decode cX12_layTurns 101 = .ok (.irem, 1) := by decide +kernel
theorem dX12_layTurns_102 : decode cX12_layTurns 102 = .ok (.invokestatic 270, 3) := by decide +kernel
theorem dX12_layTurns_105 : decode cX12_layTurns 105 = .ok (.ifCond .eq 36, 3) := by decide +kernel
theorem dX12_layTurns_108 : decode cX12_layTurns 108 = .ok (.aload_n 0, 1) := by decide +kernel
theorem dX12_layTurns_109 : decode cX12_layTurns 109 = .ok (.iload 5, 2) := by decide +kernel
theorem dX12_layTurns_111 : decode cX12_layTurns 111 = .ok (.bipush 30, 2) := by decide +kernel
theorem dX12_layTurns_113 : decode cX12_layTurns 113 = .ok (.idiv, 1) := by decide +kernel
theorem dX12_layTurns_114 : decode cX12_layTurns 114 = .ok (.iload 5, 2) := by decide +kernel
theorem dX12_layTurns_116 : decode cX12_layTurns 116 = .ok (.bipush 30, 2) := by decide +kernel
theorem dX12_layTurns_118 : decode cX12_layTurns 118 = .ok (.irem, 1) := by decide +kernel
theorem dX12_layTurns_119 : decode cX12_layTurns 119 = .ok (.invokevirtual 445, 3) := by decide +kernel
theorem dX12_layTurns_122 : decode cX12_layTurns 122 = .ok (.iload 4, 2) := by decide +kernel
theorem dX12_layTurns_124 : decode cX12_layTurns 124 = .ok (.if_icmp .eq 6, 3) := by decide +kernel
theorem dX12_layTurns_127 : decode cX12_layTurns 127 = .ok (.goto 14, 3) := by decide +kernel
theorem dX12_layTurns_130 : decode cX12_layTurns 130 = .ok (.aload_n 0, 1) := by decide +kernel
theorem dX12_layTurns_131 : decode cX12_layTurns 131 = .ok (.getfield 53, 3) := by decide +kernel
theorem dX12_layTurns_134 : decode cX12_layTurns 134 = .ok (.iload 5, 2) := by decide +kernel
theorem dX12_layTurns_136 : decode cX12_layTurns 136 = .ok (.iload 4, 2) := by decide +kernel
theorem dX12_layTurns_138 : decode cX12_layTurns 138 = .ok (.iastore, 1) := by decide +kernel
theorem dX12_layTurns_139 : decode cX12_layTurns 139 = .ok (.iconst 1, 1) := by decide +kernel
theorem dX12_layTurns_140 : decode cX12_layTurns 140 = .ok (.istore_n 3, 1) := by decide +kernel
theorem dX12_layTurns_141 : decode cX12_layTurns 141 = .ok (.iinc 5 1, 3) := by decide +kernel
theorem dX12_layTurns_144 : decode cX12_layTurns 144 = .ok (.goto (-81), 3) := by decide +kernel
theorem dX12_layTurns_147 : decode cX12_layTurns 147 = .ok (.iinc 4 1, 3) := by decide +kernel
theorem dX12_layTurns_150 : decode cX12_layTurns 150 = .ok (.goto (-96), 3) := by decide +kernel
theorem dX12_layTurns_153 : decode cX12_layTurns 153 = .ok (.return_, 1) := by decide +kernel
theorem dX12_areFlying_0 : decode cX12_areFlying 0 = .ok (.aload_n 0, 1) := by decide +kernel
theorem dX12_areFlying_1 : decode cX12_areFlying 1 = .ok (.iload_n 1, 1) := by decide +kernel
theorem dX12_areFlying_2 : decode cX12_areFlying 2 = .ok (.invokevirtual 99, 3) := by decide +kernel
theorem dX12_areFlying_5 : decode cX12_areFlying 5 = .ok (.ifCond .eq 24, 3) := by decide +kernel
theorem dX12_areFlying_8 : decode cX12_areFlying 8 = .ok (.aload_n 0, 1) := by decide +kernel
theorem dX12_areFlying_9 : decode cX12_areFlying 9 = .ok (.iload_n 2, 1) := by decide +kernel
theorem dX12_areFlying_10 : decode cX12_areFlying 10 = .ok (.invokevirtual 99, 3) := by decide +kernel
theorem dX12_areFlying_13 : decode cX12_areFlying 13 = .ok (.ifCond .eq 16, 3) := by decide +kernel
theorem dX12_areFlying_16 : decode cX12_areFlying 16 = .ok (.iload_n 3, 1) := by decide +kernel
theorem dX12_areFlying_17 : decode cX12_areFlying 17 = .ok (.iconst 1, 1) := by decide +kernel
theorem dX12_areFlying_18 : decode cX12_areFlying 18 = .ok (.iconst 2, 1) := by decide +kernel
theorem dX12_areFlying_19 : decode cX12_areFlying 19 = .ok (.invokestatic 87, 3) := by decide +kernel
theorem dX12_areFlying_22 : decode cX12_areFlying 22 = .ok (.ifCond .eq 7, 3) := by decide +kernel
theorem dX12_areFlying_25 : decode cX12_areFlying 25 = .ok (.iconst 1, 1) := by decide +kernel
theorem dX12_areFlying_26 : decode cX12_areFlying 26 = .ok (.goto 4, 3) := by decide +kernel
theorem dX12_areFlying_29 : decode cX12_areFlying 29 = .ok (.iconst 0, 1) := by decide +kernel
theorem dX12_areFlying_30 : decode cX12_areFlying 30 = .ok (.ireturn, 1) := by decide +kernel
theorem dX12_caught_0 : decode cX12_caught 0 = .ok (.aload_n 0, 1) := by decide +kernel
theorem dX12_caught_1 : decode cX12_caught 1 = .ok (.iload_n 1, 1) := by decide +kernel
theorem dX12_caught_2 : decode cX12_caught 2 = .ok (.iload_n 2, 1) := by decide +kernel
theorem dX12_caught_3 : decode cX12_caught 3 = .ok (.iload_n 3, 1) := by decide +kernel
theorem dX12_caught_4 : decode cX12_caught 4 = .ok (.invokevirtual 448, 3) := by decide +kernel
theorem dX12_caught_7 : decode cX12_caught 7 = .ok (.ifCond .ne 5, 3) := by decide +kernel
theorem dX12_caught_10 : decode cX12_caught 10 = .ok (.iconst (-1), 1) := by decide +kernel
theorem dX12_caught_11 : decode cX12_caught 11 = .ok (.ireturn, 1) := by decide +kernel
theorem dX12_caught_12 : decode cX12_caught 12 = .ok (.aload_n 0, 1) := by decide +kernel
theorem dX12_caught_13 : decode cX12_caught 13 = .ok (.iload_n 3, 1) := by decide +kernel
theorem dX12_caught_14 : decode cX12_caught 14 = .ok (.invokevirtual 451, 3) := by decide +kernel
theorem dX12_caught_17 : decode cX12_caught 17 = .ok (.aload_n 0, 1) := by decide +kernel
theorem dX12_caught_18 : decode cX12_caught 18 = .ok (.getfield 53, 3) := by decide +kernel
theorem dX12_caught_21 : decode cX12_caught 21 = .ok (.bipush 30, 2) := by decide +kernel
theorem dX12_caught_23 : decode cX12_caught 23 = .ok (.iload_n 1, 1) := by decide +kernel
theorem dX12_caught_24 : decode cX12_caught 24 = .ok (.imul, 1) := by decide +kernel
theorem dX12_caught_25 : decode cX12_caught 25 = .ok (.iload_n 2, 1) := by decide +kernel
theorem dX12_caught_26 : decode cX12_caught 26 = .ok (.iadd, 1) := by decide +kernel
theorem dX12_caught_27 : decode cX12_caught 27 = .ok (.iaload, 1) := by decide +kernel
theorem dX12_caught_28 : decode cX12_caught 28 = .ok (.istore 4, 2) := by decide +kernel
theorem dX12_caught_30 : decode cX12_caught 30 = .ok (.iload 4, 2) := by decide +kernel
theorem dX12_caught_32 : decode cX12_caught 32 = .ok (.ldc_w 435, 3) := by decide +kernel
theorem dX12_caught_35 : decode cX12_caught 35 = .ok (.if_icmp .ne 7, 3) := by decide +kernel
theorem dX12_caught_38 : decode cX12_caught 38 = .ok (.iconst (-1), 1) := by decide +kernel
theorem dX12_caught_39 : decode cX12_caught 39 = .ok (.goto 5, 3) := by decide +kernel
theorem dX12_caught_42 : decode cX12_caught 42 = .ok (.iload 4, 2) := by decide +kernel
theorem dX12_caught_44 : decode cX12_caught 44 = .ok (.ireturn, 1) := by decide +kernel
theorem dX12_flee_0 : decode cX12_flee 0 = .ok (.aload_n 0, 1) := by decide +kernel
theorem dX12_flee_1 : decode cX12_flee 1 = .ok (.iload_n 1, 1) := by decide +kernel
theorem dX12_flee_2 : decode cX12_flee 2 = .ok (.iload_n 2, 1) := by decide +kernel
theorem dX12_flee_3 : decode cX12_flee 3 = .ok (.iload_n 3, 1) := by decide +kernel
theorem dX12_flee_4 : decode cX12_flee 4 = .ok (.invokevirtual 448, 3) := by decide +kernel
theorem dX12_flee_7 : decode cX12_flee 7 = .ok (.ifCond .ne 5, 3) := by decide +kernel
theorem dX12_flee_10 : decode cX12_flee 10 = .ok (.iconst (-1), 1) := by decide +kernel
theorem dX12_flee_11 : decode cX12_flee 11 = .ok (.ireturn, 1) := by decide +kernel
theorem dX12_flee_12 : decode cX12_flee 12 = .ok (.iload_n 1, 1) := by decide +kernel
theorem dX12_flee_13 : decode cX12_flee 13 = .ok (.iload_n 2, 1) := by decide +kernel
theorem dX12_flee_14 : decode cX12_flee 14 = .ok (.if_icmp .ne 5, 3) := by decide +kernel
theorem dX12_flee_17 : decode cX12_flee 17 = .ok (.iload_n 1, 1) := by decide +kernel
theorem dX12_flee_18 : decode cX12_flee 18 = .ok (.ireturn, 1) := by decide +kernel
theorem dX12_flee_19 : decode cX12_flee 19 = .ok (.aload_n 0, 1) := by decide +kernel
theorem dX12_flee_20 : decode cX12_flee 20 = .ok (.iload_n 3, 1) := by decide +kernel
theorem dX12_flee_21 : decode cX12_flee 21 = .ok (.invokevirtual 451, 3) := by decide +kernel
theorem dX12_flee_24 : decode cX12_flee 24 = .ok (.iconst (-1), 1) := by decide +kernel
theorem dX12_flee_25 : decode cX12_flee 25 = .ok (.istore 4, 2) := by decide +kernel
theorem dX12_flee_27 : decode cX12_flee 27 = .ok (.iconst 0, 1) := by decide +kernel
theorem dX12_flee_28 : decode cX12_flee 28 = .ok (.istore 5, 2) := by decide +kernel
theorem dX12_flee_30 : decode cX12_flee 30 = .ok (.iload 5, 2) := by decide +kernel
theorem dX12_flee_32 : decode cX12_flee 32 = .ok (.bipush 30, 2) := by decide +kernel
theorem dX12_flee_34 : decode cX12_flee 34 = .ok (.if_icmp .ge 49, 3) := by decide +kernel
theorem dX12_flee_37 : decode cX12_flee 37 = .ok (.aload_n 0, 1) := by decide +kernel
theorem dX12_flee_38 : decode cX12_flee 38 = .ok (.iload_n 1, 1) := by decide +kernel
theorem dX12_flee_39 : decode cX12_flee 39 = .ok (.invokevirtual 436, 3) := by decide +kernel
theorem dX12_flee_42 : decode cX12_flee 42 = .ok (.iload 5, 2) := by decide +kernel
theorem dX12_flee_44 : decode cX12_flee 44 = .ok (.invokestatic 270, 3) := by decide +kernel
theorem dX12_flee_47 : decode cX12_flee 47 = .ok (.ifCond .eq 30, 3) := by decide +kernel
theorem dX12_flee_50 : decode cX12_flee 50 = .ok (.iload 4, 2) := by decide +kernel
theorem dX12_flee_52 : decode cX12_flee 52 = .ok (.iconst (-1), 1) := by decide +kernel
theorem dX12_flee_53 : decode cX12_flee 53 = .ok (.if_icmp .eq 20, 3) := by decide +kernel
theorem dX12_flee_56 : decode cX12_flee 56 = .ok (.aload_n 0, 1) := by decide +kernel
theorem dX12_flee_57 : decode cX12_flee 57 = .ok (.iload 5, 2) := by decide +kernel
theorem dX12_flee_59 : decode cX12_flee 59 = .ok (.iload_n 2, 1) := by decide +kernel
theorem dX12_flee_60 : decode cX12_flee 60 = .ok (.invokevirtual 439, 3) := by decide +kernel
theorem dX12_flee_63 : decode cX12_flee 63 = .ok (.aload_n 0, 1) := by decide +kernel
theorem dX12_flee_64 : decode cX12_flee 64 = .ok (.iload 4, 2) := by decide +kernel
theorem dX12_flee_66 : decode cX12_flee 66 = .ok (.iload_n 2, 1) := by decide +kernel
theorem dX12_flee_67 : decode cX12_flee 67 = .ok (.invokevirtual 439, 3) := by decide +kernel
theorem dX12_flee_70 : decode cX12_flee 70 = .ok (.if_icmp .le 7, 3) := by decide +kernel
theorem dX12_flee_73 : decode cX12_flee 73 = .ok (.iload 5, 2) := by decide +kernel
theorem dX12_flee_75 : decode cX12_flee 75 = .ok (.istore 4, 2) := by decide +kernel
theorem dX12_flee_77 : decode cX12_flee 77 = .ok (.iinc 5 1, 3) := by decide +kernel
theorem dX12_flee_80 : decode cX12_flee 80 = .ok (.goto (-50), 3) := by decide +kernel
theorem dX12_flee_83 : decode cX12_flee 83 = .ok (.iload 4, 2) := by decide +kernel
theorem dX12_flee_85 : decode cX12_flee 85 = .ok (.ireturn, 1) := by decide +kernel
theorem dX12_change_0 : decode cX12_change 0 = .ok (.aload_n 0, 1) := by decide +kernel
theorem dX12_change_1 : decode cX12_change 1 = .ok (.getfield 59, 3) := by decide +kernel
theorem dX12_change_4 : decode cX12_change 4 = .ok (.iload_n 1, 1) := by decide +kernel
theorem dX12_change_5 : decode cX12_change 5 = .ok (.iaload, 1) := by decide +kernel
theorem dX12_change_6 : decode cX12_change 6 = .ok (.istore_n 3, 1) := by decide +kernel
theorem dX12_change_7 : decode cX12_change 7 = .ok (.aload_n 0, 1) := by decide +kernel
theorem dX12_change_8 : decode cX12_change 8 = .ok (.getfield 59, 3) := by decide +kernel
theorem dX12_change_11 : decode cX12_change 11 = .ok (.iload_n 1, 1) := by decide +kernel
theorem dX12_change_12 : decode cX12_change 12 = .ok (.aload_n 0, 1) := by decide +kernel
theorem dX12_change_13 : decode cX12_change 13 = .ok (.getfield 59, 3) := by decide +kernel
theorem dX12_change_16 : decode cX12_change 16 = .ok (.iload_n 2, 1) := by decide +kernel
theorem dX12_change_17 : decode cX12_change 17 = .ok (.iaload, 1) := by decide +kernel
theorem dX12_change_18 : decode cX12_change 18 = .ok (.iastore, 1) := by decide +kernel
theorem dX12_change_19 : decode cX12_change 19 = .ok (.aload_n 0, 1) := by decide +kernel
theorem dX12_change_20 : decode cX12_change 20 = .ok (.getfield 59, 3) := by decide +kernel
theorem dX12_change_23 : decode cX12_change 23 = .ok (.iload_n 2, 1) := by decide +kernel
theorem dX12_change_24 : decode cX12_change 24 = .ok (.iload_n 3, 1) := by decide +kernel
theorem dX12_change_25 : decode cX12_change 25 = .ok (.iastore, 1) := by decide +kernel
theorem dX12_change_26 : decode cX12_change 26 = .ok (.return_, 1) := by decide +kernel
theorem dX12_isNextRow_0 : decode cX12_isNextRow 0 = .ok (.iload_n 1, 1) := by decide +kernel
theorem dX12_isNextRow_1 : decode cX12_isNextRow 1 = .ok (.iconst 2, 1) := by decide +kernel
theorem dX12_isNextRow_2 : decode cX12_isNextRow 2 = .ok (.isub, 1) := by decide +kernel
theorem dX12_isNextRow_3 : decode cX12_isNextRow 3 = .ok (.istore_n 2, 1) := by decide +kernel
theorem dX12_isNextRow_4 : decode cX12_isNextRow 4 = .ok (.iload_n 2, 1) := by decide +kernel
theorem dX12_isNextRow_5 : decode cX12_isNextRow 5 = .ok (.ifCond .lt 26, 3) := by decide +kernel
theorem dX12_isNextRow_8 : decode cX12_isNextRow 8 = .ok (.aload_n 0, 1) := by decide +kernel
theorem dX12_isNextRow_9 : decode cX12_isNextRow 9 = .ok (.getfield 59, 3) := by decide +kernel
theorem dX12_isNextRow_12 : decode cX12_isNextRow 12 = .ok (.iload_n 2, 1) := by decide +kernel
theorem dX12_isNextRow_13 : decode cX12_isNextRow 13 = .ok (.iaload, 1) := by decide +kernel
theorem dX12_isNextRow_14 : decode cX12_isNextRow 14 = .ok (.aload_n 0, 1) := by decide +kernel
theorem dX12_isNextRow_15 : decode cX12_isNextRow 15 = .ok (.getfield 59, 3) := by decide +kernel
theorem dX12_isNextRow_18 : decode cX12_isNextRow 18 = .ok (.iload_n 2, 1) := by decide +kernel
theorem dX12_isNextRow_19 : decode cX12_isNextRow 19 = .ok (.iconst 1, 1) := by decide +kernel
theorem dX12_isNextRow_20 : decode cX12_isNextRow 20 = .ok (.iadd, 1) := by decide +kernel
theorem dX12_isNextRow_21 : decode cX12_isNextRow 21 = .ok (.iaload, 1) := by decide +kernel
theorem dX12_isNextRow_22 : decode cX12_isNextRow 22 = .ok (.if_icmp .le 9, 3) := by decide +kernel
theorem dX12_isNextRow_25 : decode cX12_isNextRow 25 = .ok (.iinc 2 (-1), 3) := by decide +kernel
theorem dX12_isNextRow_28 : decode cX12_isNextRow 28 = .ok (.goto (-24), 3) := by decide +kernel
theorem dX12_isNextRow_31 : decode cX12_isNextRow 31 = .ok (.iload_n 2, 1) := by decide +kernel
theorem dX12_isNextRow_32 : decode cX12_isNextRow 32 = .ok (.ifCond .ge 5, 3) := by decide +kernel
theorem dX12_isNextRow_35 : decode cX12_isNextRow 35 = .ok (.iconst 0, 1) := by decide +kernel
theorem dX12_isNextRow_36 : decode cX12_isNextRow 36 = .ok (.ireturn, 1) := by decide +kernel
theorem dX12_isNextRow_37 : decode cX12_isNextRow 37 = .ok (.iload_n 1, 1) := by decide +kernel
theorem dX12_isNextRow_38 : decode cX12_isNextRow 38 = .ok (.iconst 1, 1) := by decide +kernel
theorem dX12_isNextRow_39 : decode cX12_isNextRow 39 = .ok (.isub, 1) := by decide +kernel
theorem dX12_isNextRow_40 : decode cX12_isNextRow 40 = .ok (.istore_n 3, 1) := by decide +kernel
theorem dX12_isNextRow_41 : decode cX12_isNextRow 41 = .ok (.aload_n 0, 1) := by decide +kernel
theorem dX12_isNextRow_42 : decode cX12_isNextRow 42 = .ok (.getfield 59, 3) := by decide +kernel
theorem dX12_isNextRow_45 : decode cX12_isNextRow 45 = .ok (.iload_n 3, 1) := by decide +kernel
theorem dX12_isNextRow_46 : decode cX12_isNextRow 46 = .ok (.iaload, 1) := by decide +kernel
theorem dX12_isNextRow_47 : decode cX12_isNextRow 47 = .ok (.aload_n 0, 1) := by decide +kernel
theorem dX12_isNextRow_48 : decode cX12_isNextRow 48 = .ok (.getfield 59, 3) := by decide +kernel
theorem dX12_isNextRow_51 : decode cX12_isNextRow 51 = .ok (.iload_n 2, 1) := by decide +kernel
theorem dX12_isNextRow_52 : decode cX12_isNextRow 52 = .ok (.iaload, 1) := by decide +kernel
theorem dX12_isNextRow_53 : decode cX12_isNextRow 53 = .ok (.if_icmp .ge 9, 3) := by decide +kernel
theorem dX12_isNextRow_56 : decode cX12_isNextRow 56 = .ok (.iinc 3 (-1), 3) := by decide +kernel
theorem dX12_isNextRow_59 : decode cX12_isNextRow 59 = .ok (.goto (-18), 3) := by decide +kernel
theorem dX12_isNextRow_62 : decode cX12_isNextRow 62 = .ok (.aload_n 0, 1) := by decide +kernel
theorem dX12_isNextRow_63 : decode cX12_isNextRow 63 = .ok (.iload_n 2, 1) := by decide +kernel
theorem dX12_isNextRow_64 : decode cX12_isNextRow 64 = .ok (.iload_n 3, 1) := by decide +kernel
theorem dX12_isNextRow_65 : decode cX12_isNextRow 65 = .ok (.invokevirtual 454, 3) := by decide +kernel
theorem dX12_isNextRow_68 : decode cX12_isNextRow 68 = .ok (.iload_n 1, 1) := by decide +kernel
theorem dX12_isNextRow_69 : decode cX12_isNextRow 69 = .ok (.iconst 1, 1) := by decide +kernel
theorem dX12_isNextRow_70 : decode cX12_isNextRow 70 = .ok (.isub, 1) := by decide +kernel
theorem dX12_isNextRow_71 : decode cX12_isNextRow 71 = .ok (.istore 4, 2) := by decide +kernel
theorem dX12_isNextRow_73 : decode cX12_isNextRow 73 = .ok (.iload_n 2, 1) := by decide +kernel
theorem dX12_isNextRow_74 : decode cX12_isNextRow 74 = .ok (.iconst 1, 1) := by decide +kernel
theorem dX12_isNextRow_75 : decode cX12_isNextRow 75 = .ok (.iadd, 1) := by decide +kernel
theorem dX12_isNextRow_76 : decode cX12_isNextRow 76 = .ok (.istore 5, 2) := by decide +kernel
theorem dX12_isNextRow_78 : decode cX12_isNextRow 78 = .ok (.iload 5, 2) := by decide +kernel
theorem dX12_isNextRow_80 : decode cX12_isNextRow 80 = .ok (.iload 4, 2) := by decide +kernel
theorem dX12_isNextRow_82 : decode cX12_isNextRow 82 = .ok (.if_icmp .ge 20, 3) := by decide +kernel
theorem dX12_isNextRow_85 : decode cX12_isNextRow 85 = .ok (.aload_n 0, 1) := by decide +kernel
theorem dX12_isNextRow_86 : decode cX12_isNextRow 86 = .ok (.iload 5, 2) := by decide +kernel
theorem dX12_isNextRow_88 : decode cX12_isNextRow 88 = .ok (.iload 4, 2) := by decide +kernel
theorem dX12_isNextRow_90 : decode cX12_isNextRow 90 = .ok (.invokevirtual 454, 3) := by decide +kernel
theorem dX12_isNextRow_93 : decode cX12_isNextRow 93 = .ok (.iinc 4 (-1), 3) := by decide +kernel
theorem dX12_isNextRow_96 : decode cX12_isNextRow 96 = .ok (.iinc 5 1, 3) := by decide +kernel
theorem dX12_isNextRow_99 : decode cX12_isNextRow 99 = .ok (.goto (-21), 3) := by decide +kernel
theorem dX12_isNextRow_102 : decode cX12_isNextRow 102 = .ok (.iconst 1, 1) := by decide +kernel
theorem dX12_isNextRow_103 : decode cX12_isNextRow 103 = .ok (.ireturn, 1) := by decide +kernel
theorem dX12_areFars_0 : decode cX12_areFars 0 = .ok (.iconst 0, 1) := by decide +kernel
theorem dX12_areFars_1 : decode cX12_areFars 1 = .ok (.istore_n 3, 1) := by decide +kernel
theorem dX12_areFars_2 : decode cX12_areFars 2 = .ok (.iload_n 3, 1) := by decide +kernel
theorem dX12_areFars_3 : decode cX12_areFars 3 = .ok (.iload_n 2, 1) := by decide +kernel
theorem dX12_areFars_4 : decode cX12_areFars 4 = .ok (.if_icmp .gt 89, 3) := by decide +kernel
theorem dX12_areFars_7 : decode cX12_areFars 7 = .ok (.aload_n 0, 1) := by decide +kernel
theorem dX12_areFars_8 : decode cX12_areFars 8 = .ok (.iload_n 3, 1) := by decide +kernel
theorem dX12_areFars_9 : decode cX12_areFars 9 = .ok (.iload_n 2, 1) := by decide +kernel
theorem dX12_areFars_10 : decode cX12_areFars 10 = .ok (.if_icmp .ne 7, 3) := by decide +kernel
theorem dX12_areFars_13 : decode cX12_areFars 13 = .ok (.iload_n 1, 1) := by decide +kernel
theorem dX12_areFars_14 : decode cX12_areFars 14 = .ok (.goto 9, 3) := by decide +kernel
theorem dX12_areFars_17 : decode cX12_areFars 17 = .ok (.aload_n 0, 1) := by decide +kernel
theorem dX12_areFars_18 : decode cX12_areFars 18 = .ok (.getfield 68, 3) := by decide +kernel
theorem dX12_areFars_21 : decode cX12_areFars 21 = .ok (.iload_n 3, 1) := by decide +kernel
theorem dX12_areFars_22 : decode cX12_areFars 22 = .ok (.iaload, 1) := by decide +kernel
theorem dX12_areFars_23 : decode cX12_areFars 23 = .ok (.aload_n 0, 1) := by decide +kernel
theorem dX12_areFars_24 : decode cX12_areFars 24 = .ok (.invokevirtual 324, 3) := by decide +kernel
theorem dX12_areFars_27 : decode cX12_areFars 27 = .ok (.invokevirtual 327, 3) := by decide +kernel
theorem dX12_areFars_30 : decode cX12_areFars 30 = .ok (.iconst 0, 1) := by decide +kernel
theorem dX12_areFars_31 : decode cX12_areFars 31 = .ok (.istore 4, 2) := by decide +kernel
theorem dX12_areFars_33 : decode cX12_areFars 33 = .ok (.iload 4, 2) := by decide +kernel
theorem dX12_areFars_35 : decode cX12_areFars 35 = .ok (.iload_n 2, 1) := by decide +kernel
theorem dX12_areFars_36 : decode cX12_areFars 36 = .ok (.if_icmp .ge 51, 3) := by decide +kernel
theorem dX12_areFars_39 : decode cX12_areFars 39 = .ok (.aload_n 0, 1) := by decide +kernel
theorem dX12_areFars_40 : decode cX12_areFars 40 = .ok (.getfield 65, 3) := by decide +kernel
theorem dX12_areFars_43 : decode cX12_areFars 43 = .ok (.bipush 6, 2) := by decide +kernel
theorem dX12_areFars_45 : decode cX12_areFars 45 = .ok (.iload_n 3, 1) := by decide +kernel
theorem dX12_areFars_46 : decode cX12_areFars 46 = .ok (.imul, 1) := by decide +kernel
theorem dX12_areFars_47 : decode cX12_areFars 47 = .ok (.iload 4, 2) := by decide +kernel
theorem dX12_areFars_49 : decode cX12_areFars 49 = .ok (.iadd, 1) := by decide +kernel
theorem dX12_areFars_50 : decode cX12_areFars 50 = .ok (.aload_n 0, 1) := by decide +kernel
theorem dX12_areFars_51 : decode cX12_areFars 51 = .ok (.getfield 43, 3) := by decide +kernel
theorem dX12_areFars_54 : decode cX12_areFars 54 = .ok (.aload_n 0, 1) := by decide +kernel
theorem dX12_areFars_55 : decode cX12_areFars 55 = .ok (.getfield 68, 3) := by decide +kernel
theorem dX12_areFars_58 : decode cX12_areFars 58 = .ok (.iload 4, 2) := by decide +kernel
theorem dX12_areFars_60 : decode cX12_areFars 60 = .ok (.iaload, 1) := by decide +kernel
theorem dX12_areFars_61 : decode cX12_areFars 61 = .ok (.iaload, 1) := by decide +kernel
theorem dX12_areFars_62 : decode cX12_areFars 62 = .ok (.iastore, 1) := by decide +kernel
theorem dX12_areFars_63 : decode cX12_areFars 63 = .ok (.aload_n 0, 1) := by decide +kernel
theorem dX12_areFars_64 : decode cX12_areFars 64 = .ok (.getfield 65, 3) := by decide +kernel
theorem dX12_areFars_67 : decode cX12_areFars 67 = .ok (.bipush 6, 2) := by decide +kernel
theorem dX12_areFars_69 : decode cX12_areFars 69 = .ok (.iload_n 3, 1) := by decide +kernel
theorem dX12_areFars_70 : decode cX12_areFars 70 = .ok (.imul, 1) := by decide +kernel
theorem dX12_areFars_71 : decode cX12_areFars 71 = .ok (.iload 4, 2) := by decide +kernel
theorem dX12_areFars_73 : decode cX12_areFars 73 = .ok (.iadd, 1) := by decide +kernel
theorem dX12_areFars_74 : decode cX12_areFars 74 = .ok (.iaload, 1) := by decide +kernel
theorem dX12_areFars_75 : decode cX12_areFars 75 = .ok (.iconst (-1), 1) := by decide +kernel
theorem dX12_areFars_76 : decode cX12_areFars 76 = .ok (.if_icmp .ne 5, 3) := by decide +kernel
theorem dX12_areFars_79 : decode cX12_areFars 79 = .ok (.iconst 0, 1) := by decide +kernel
theorem dX12_areFars_80 : decode cX12_areFars 80 = .ok (.ireturn, 1) := by decide +kernel
theorem dX12_areFars_81 : decode cX12_areFars 81 = .ok (.iinc 4 1, 3) := by decide +kernel
theorem dX12_areFars_84 : decode cX12_areFars 84 = .ok (.goto (-51), 3) := by decide +kernel
theorem dX12_areFars_87 : decode cX12_areFars 87 = .ok (.iinc 3 1, 3) := by decide +kernel
theorem dX12_areFars_90 : decode cX12_areFars 90 = .ok (.goto (-88), 3) := by decide +kernel
theorem dX12_areFars_93 : decode cX12_areFars 93 = .ok (.iconst 1, 1) := by decide +kernel
theorem dX12_areFars_94 : decode cX12_areFars 94 = .ok (.ireturn, 1) := by decide +kernel
theorem dX12_tour_0 : decode cX12_tour 0 = .ok (.aload_n 0, 1) := by decide +kernel
theorem dX12_tour_1 : decode cX12_tour 1 = .ok (.iload_n 1, 1) := by decide +kernel
theorem dX12_tour_2 : decode cX12_tour 2 = .ok (.invokevirtual 99, 3) := by decide +kernel
theorem dX12_tour_5 : decode cX12_tour 5 = .ok (.ifCond .eq 46, 3) := by decide +kernel
theorem dX12_tour_8 : decode cX12_tour 8 = .ok (.iload_n 2, 1) := by decide +kernel
theorem dX12_tour_9 : decode cX12_tour 9 = .ok (.iconst 1, 1) := by decide +kernel
theorem dX12_tour_10 : decode cX12_tour 10 = .ok (.ldc 104, 2) := by decide +kernel
theorem dX12_tour_12 : decode cX12_tour 12 = .ok (.invokestatic 87, 3) := by decide +kernel
theorem dX12_tour_15 : decode cX12_tour 15 = .ok (.ifCond .eq 36, 3) := by decide +kernel
theorem dX12_tour_18 : decode cX12_tour 18 = .ok (.iload_n 2, 1) := by decide +kernel
theorem dX12_tour_19 : decode cX12_tour 19 = .ok (.aload_n 0, 1) := by decide +kernel
theorem dX12_tour_20 : decode cX12_tour 20 = .ok (.invokevirtual 324, 3) := by decide +kernel
theorem dX12_tour_23 : decode cX12_tour 23 = .ok (.iconst (-1), 1) := by decide +kernel
theorem dX12_tour_24 : decode cX12_tour 24 = .ok (.ixor, 1) := by decide +kernel
theorem dX12_tour_25 : decode cX12_tour 25 = .ok (.iand, 1) := by decide +kernel
theorem dX12_tour_26 : decode cX12_tour 26 = .ok (.ifCond .ne 25, 3) := by decide +kernel
theorem dX12_tour_29 : decode cX12_tour 29 = .ok (.iload_n 2, 1) := by decide +kernel
theorem dX12_tour_30 : decode cX12_tour 30 = .ok (.invokestatic 457, 3) := by decide +kernel
theorem dX12_tour_33 : decode cX12_tour 33 = .ok (.iconst 5, 1) := by decide +kernel
theorem dX12_tour_34 : decode cX12_tour 34 = .ok (.if_icmp .gt 17, 3) := by decide +kernel
theorem dX12_tour_37 : decode cX12_tour 37 = .ok (.iload_n 3, 1) := by decide +kernel
theorem dX12_tour_38 : decode cX12_tour 38 = .ok (.iconst (-1), 1) := by decide +kernel
theorem dX12_tour_39 : decode cX12_tour 39 = .ok (.iload_n 2, 1) := by decide +kernel
theorem dX12_tour_40 : decode cX12_tour 40 = .ok (.invokestatic 457, 3) := by decide +kernel
theorem dX12_tour_43 : decode cX12_tour 43 = .ok (.iconst 1, 1) := by decide +kernel
theorem dX12_tour_44 : decode cX12_tour 44 = .ok (.isub, 1) := by decide +kernel
theorem dX12_tour_45 : decode cX12_tour 45 = .ok (.invokestatic 87, 3) := by decide +kernel
theorem dX12_tour_48 : decode cX12_tour 48 = .ok (.ifCond .ne 6, 3) := by decide +kernel
theorem dX12_tour_51 : decode cX12_tour 51 = .ok (.bipush (-2), 2) := by decide +kernel
theorem dX12_tour_53 : decode cX12_tour 53 = .ok (.ireturn, 1) := by decide +kernel
theorem dX12_tour_54 : decode cX12_tour 54 = .ok (.iconst 0, 1) := by decide +kernel
theorem dX12_tour_55 : decode cX12_tour 55 = .ok (.istore 4, 2) := by decide +kernel
theorem dX12_tour_57 : decode cX12_tour 57 = .ok (.iconst 0, 1) := by decide +kernel
theorem dX12_tour_58 : decode cX12_tour 58 = .ok (.istore 5, 2) := by decide +kernel
theorem dX12_tour_60 : decode cX12_tour 60 = .ok (.iload 5, 2) := by decide +kernel
theorem dX12_tour_62 : decode cX12_tour 62 = .ok (.bipush 30, 2) := by decide +kernel
theorem dX12_tour_64 : decode cX12_tour 64 = .ok (.if_icmp .ge 42, 3) := by decide +kernel
theorem dX12_tour_67 : decode cX12_tour 67 = .ok (.iload_n 2, 1) := by decide +kernel
theorem dX12_tour_68 : decode cX12_tour 68 = .ok (.iload 5, 2) := by decide +kernel
theorem dX12_tour_70 : decode cX12_tour 70 = .ok (.invokestatic 270, 3) := by decide +kernel
theorem dX12_tour_73 : decode cX12_tour 73 = .ok (.ifCond .ne 6, 3) := by decide +kernel
theorem dX12_tour_76 : decode cX12_tour 76 = .ok (.goto 24, 3) := by decide +kernel
theorem dX12_tour_79 : decode cX12_tour 79 = .ok (.aload_n 0, 1) := by decide +kernel
theorem dX12_tour_80 : decode cX12_tour 80 = .ok (.getfield 68, 3) := by decide +kernel
theorem dX12_tour_83 : decode cX12_tour 83 = .ok (.iload 4, 2) := by decide +kernel
theorem dX12_tour_85 : decode cX12_tour 85 = .ok (.iload 5, 2) := by decide +kernel
theorem dX12_tour_87 : decode cX12_tour 87 = .ok (.iastore, 1) := by decide +kernel
theorem dX12_tour_88 : decode cX12_tour 88 = .ok (.aload_n 0, 1) := by decide +kernel
theorem dX12_tour_89 : decode cX12_tour 89 = .ok (.getfield 59, 3) := by decide +kernel
theorem dX12_tour_92 : decode cX12_tour 92 = .ok (.iload 4, 2) := by decide +kernel
theorem dX12_tour_94 : decode cX12_tour 94 = .ok (.iload 4, 2) := by decide +kernel
theorem dX12_tour_96 : decode cX12_tour 96 = .ok (.iastore, 1) := by decide +kernel
theorem dX12_tour_97 : decode cX12_tour 97 = .ok (.iinc 4 1, 3) := by decide +kernel
theorem dX12_tour_100 : decode cX12_tour 100 = .ok (.iinc 5 1, 3) := by decide +kernel
theorem dX12_tour_103 : decode cX12_tour 103 = .ok (.goto (-43), 3) := by decide +kernel
theorem dX12_tour_106 : decode cX12_tour 106 = .ok (.aload_n 0, 1) := by decide +kernel
theorem dX12_tour_107 : decode cX12_tour 107 = .ok (.iload_n 1, 1) := by decide +kernel
theorem dX12_tour_108 : decode cX12_tour 108 = .ok (.iload 4, 2) := by decide +kernel
theorem dX12_tour_110 : decode cX12_tour 110 = .ok (.invokevirtual 460, 3) := by decide +kernel
theorem dX12_tour_113 : decode cX12_tour 113 = .ok (.ifCond .ne 6, 3) := by decide +kernel
theorem dX12_tour_116 : decode cX12_tour 116 = .ok (.bipush (-2), 2) := by decide +kernel
theorem dX12_tour_118 : decode cX12_tour 118 = .ok (.ireturn, 1) := by decide +kernel
theorem dX12_tour_119 : decode cX12_tour 119 = .ok (.ldc_w 435, 3) := by decide +kernel
theorem dX12_tour_122 : decode cX12_tour 122 = .ok (.istore 5, 2) := by decide +kernel
theorem dX12_tour_124 : decode cX12_tour 124 = .ok (.iconst 1, 1) := by decide +kernel
theorem dX12_tour_125 : decode cX12_tour 125 = .ok (.istore 6, 2) := by decide +kernel
theorem dX12_tour_127 : decode cX12_tour 127 = .ok (.iload 6, 2) := by decide +kernel
theorem dX12_tour_129 : decode cX12_tour 129 = .ok (.ifCond .eq 114, 3) := by decide +kernel
theorem dX12_tour_132 : decode cX12_tour 132 = .ok (.iconst 0, 1) := by decide +kernel
theorem dX12_tour_133 : decode cX12_tour 133 = .ok (.istore 7, 2) := by decide +kernel
theorem dX12_tour_135 : decode cX12_tour 135 = .ok (.iconst 0, 1) := by decide +kernel
theorem dX12_tour_136 : decode cX12_tour 136 = .ok (.istore 8, 2) := by decide +kernel
theorem dX12_tour_138 : decode cX12_tour 138 = .ok (.iload 8, 2) := by decide +kernel
theorem dX12_tour_140 : decode cX12_tour 140 = .ok (.iload 4, 2) := by decide +kernel
theorem dX12_tour_142 : decode cX12_tour 142 = .ok (.if_icmp .ge 49, 3) := by decide +kernel
theorem dX12_tour_145 : decode cX12_tour 145 = .ok (.iload 7, 2) := by decide +kernel
theorem dX12_tour_147 : decode cX12_tour 147 = .ok (.aload_n 0, 1) := by decide +kernel
theorem dX12_tour_148 : decode cX12_tour 148 = .ok (.getfield 65, 3) := by decide +kernel
theorem dX12_tour_151 : decode cX12_tour 151 = .ok (.bipush 6, 2) := by decide +kernel
theorem dX12_tour_153 : decode cX12_tour 153 = .ok (.iload 8, 2) := by decide +kernel
theorem dX12_tour_155 : decode cX12_tour 155 = .ok (.ifCond .ne 8, 3) := by decide +kernel
theorem dX12_tour_158 : decode cX12_tour 158 = .ok (.iload 4, 2) := by decide +kernel
theorem dX12_tour_160 : decode cX12_tour 160 = .ok (.goto 12, 3) := by decide +kernel
theorem dX12_tour_163 : decode cX12_tour 163 = .ok (.aload_n 0, 1) := by decide +kernel
theorem dX12_tour_164 : decode cX12_tour 164 = .ok (.getfield 59, 3) := by decide +kernel
theorem dX12_tour_167 : decode cX12_tour 167 = .ok (.iload 8, 2) := by decide +kernel
theorem dX12_tour_169 : decode cX12_tour 169 = .ok (.iconst 1, 1) := by decide +kernel
theorem dX12_tour_170 : decode cX12_tour 170 = .ok (.isub, 1) := by decide +kernel
theorem dX12_tour_171 : decode cX12_tour 171 = .ok (.iaload, 1) := by decide +kernel
theorem dX12_tour_172 : decode cX12_tour 172 = .ok (.imul, 1) := by decide +kernel
theorem dX12_tour_173 : decode cX12_tour 173 = .ok (.aload_n 0, 1) := by decide +kernel
theorem dX12_tour_174 : decode cX12_tour 174 = .ok (.getfield 59, 3) := by decide +kernel
theorem dX12_tour_177 : decode cX12_tour 177 = .ok (.iload 8, 2) := by decide +kernel
theorem dX12_tour_179 : decode cX12_tour 179 = .ok (.iaload, 1) := by decide +kernel
theorem dX12_tour_180 : decode cX12_tour 180 = .ok (.iadd, 1) := by decide +kernel
theorem dX12_tour_181 : decode cX12_tour 181 = .ok (.iaload, 1) := by decide +kernel
theorem dX12_tour_182 : decode cX12_tour 182 = .ok (.iadd, 1) := by decide +kernel
theorem dX12_tour_183 : decode cX12_tour 183 = .ok (.istore 7, 2) := by decide +kernel
theorem dX12_tour_185 : decode cX12_tour 185 = .ok (.iinc 8 1, 3) := by decide +kernel
theorem dX12_tour_188 : decode cX12_tour 188 = .ok (.goto (-50), 3) := by decide +kernel
theorem dX12_tour_191 : decode cX12_tour 191 = .ok (.iload 7, 2) := by decide +kernel
theorem dX12_tour_193 : decode cX12_tour 193 = .ok (.iload 5, 2) := by decide +kernel
theorem dX12_tour_195 : decode cX12_tour 195 = .ok (.if_icmp .ge 37, 3) := by decide +kernel
theorem dX12_tour_198 : decode cX12_tour 198 = .ok (.iload 7, 2) := by decide +kernel
theorem dX12_tour_200 : decode cX12_tour 200 = .ok (.istore 5, 2) := by decide +kernel
theorem dX12_tour_202 : decode cX12_tour 202 = .ok (.iconst 0, 1) := by decide +kernel
theorem dX12_tour_203 : decode cX12_tour 203 = .ok (.istore 8, 2) := by decide +kernel
theorem dX12_tour_205 : decode cX12_tour 205 = .ok (.iload 8, 2) := by decide +kernel
theorem dX12_tour_207 : decode cX12_tour 207 = .ok (.iload 4, 2) := by decide +kernel
theorem dX12_tour_209 : decode cX12_tour 209 = .ok (.if_icmp .ge 23, 3) := by decide +kernel
theorem dX12_tour_212 : decode cX12_tour 212 = .ok (.aload_n 0, 1) := by decide +kernel
theorem dX12_tour_213 : decode cX12_tour 213 = .ok (.getfield 62, 3) := by decide +kernel
theorem dX12_tour_216 : decode cX12_tour 216 = .ok (.iload 8, 2) := by decide +kernel
theorem dX12_tour_218 : decode cX12_tour 218 = .ok (.aload_n 0, 1) := by decide +kernel
theorem dX12_tour_219 : decode cX12_tour 219 = .ok (.getfield 59, 3) := by decide +kernel
theorem dX12_tour_222 : decode cX12_tour 222 = .ok (.iload 8, 2) := by decide +kernel
theorem dX12_tour_224 : decode cX12_tour 224 = .ok (.iaload, 1) := by decide +kernel
theorem dX12_tour_225 : decode cX12_tour 225 = .ok (.iastore, 1) := by decide +kernel
theorem dX12_tour_226 : decode cX12_tour 226 = .ok (.iinc 8 1, 3) := by decide +kernel
theorem dX12_tour_229 : decode cX12_tour 229 = .ok (.goto (-24), 3) := by decide +kernel
theorem dX12_tour_232 : decode cX12_tour 232 = .ok (.aload_n 0, 1) := by decide +kernel
theorem dX12_tour_233 : decode cX12_tour 233 = .ok (.iload 4, 2) := by decide +kernel
theorem dX12_tour_235 : decode cX12_tour 235 = .ok (.invokevirtual 463, 3) := by decide +kernel
theorem dX12_tour_238 : decode cX12_tour 238 = .ok (.istore 6, 2) := by decide +kernel
theorem dX12_tour_240 : decode cX12_tour 240 = .ok (.goto (-113), 3) := by decide +kernel
theorem dX12_tour_243 : decode cX12_tour 243 = .ok (.iload_n 3, 1) := by decide +kernel
theorem dX12_tour_244 : decode cX12_tour 244 = .ok (.iconst (-1), 1) := by decide +kernel
theorem dX12_tour_245 : decode cX12_tour 245 = .ok (.if_icmp .ne 8, 3) := by decide +kernel
theorem dX12_tour_248 : decode cX12_tour 248 = .ok (.iload 5, 2) := by decide +kernel
theorem dX12_tour_250 : decode cX12_tour 250 = .ok (.goto 14, 3) := by decide +kernel
theorem dX12_tour_253 : decode cX12_tour 253 = .ok (.aload_n 0, 1) := by decide +kernel
theorem dX12_tour_254 : decode cX12_tour 254 = .ok (.getfield 68, 3) := by decide +kernel
theorem dX12_tour_257 : decode cX12_tour 257 = .ok (.aload_n 0, 1) := by decide +kernel
theorem dX12_tour_258 : decode cX12_tour 258 = .ok (.getfield 62, 3) := by decide +kernel
theorem dX12_tour_261 : decode cX12_tour 261 = .ok (.iload_n 3, 1) := by decide +kernel
theorem dX12_tour_262 : decode cX12_tour 262 = .ok (.iaload, 1) := by decide +kernel
theorem dX12_tour_263 : decode cX12_tour 263 = .ok (.iaload, 1) := by decide +kernel
theorem dX12_tour_264 : decode cX12_tour 264 = .ok (.ireturn, 1) := by decide +kernel
theorem dX12_comeTo_0 : decode cX12_comeTo 0 = .ok (.iload_n 0, 1) := by decide +kernel
theorem dX12_comeTo_1 : decode cX12_comeTo 1 = .ok (.istore_n 2, 1) := by decide +kernel
theorem dX12_comeTo_2 : decode cX12_comeTo 2 = .ok (.iload_n 0, 1) := by decide +kernel
theorem dX12_comeTo_3 : decode cX12_comeTo 3 = .ok (.istore_n 3, 1) := by decide +kernel
theorem dX12_comeTo_4 : decode cX12_comeTo 4 = .ok (.iload_n 3, 1) := by decide +kernel
theorem dX12_comeTo_5 : decode cX12_comeTo 5 = .ok (.ifCond .eq 21, 3) := by decide +kernel
theorem dX12_comeTo_8 : decode cX12_comeTo 8 = .ok (.iload_n 3, 1) := by decide +kernel
theorem dX12_comeTo_9 : decode cX12_comeTo 9 = .ok (.invokestatic 321, 3) := by decide +kernel
theorem dX12_comeTo_12 : decode cX12_comeTo 12 = .ok (.iload_n 1, 1) := by decide +kernel
theorem dX12_comeTo_13 : decode cX12_comeTo 13 = .ok (.iand, 1) := by decide +kernel
theorem dX12_comeTo_14 : decode cX12_comeTo 14 = .ok (.iload_n 2, 1) := by decide +kernel
theorem dX12_comeTo_15 : decode cX12_comeTo 15 = .ok (.iconst (-1), 1) := by decide +kernel
theorem dX12_comeTo_16 : decode cX12_comeTo 16 = .ok (.ixor, 1) := by decide +kernel
theorem dX12_comeTo_17 : decode cX12_comeTo 17 = .ok (.iand, 1) := by decide +kernel
theorem dX12_comeTo_18 : decode cX12_comeTo 18 = .ok (.istore_n 3, 1) := by decide +kernel
theorem dX12_comeTo_19 : decode cX12_comeTo 19 = .ok (.iload_n 2, 1) := by decide +kernel
theorem dX12_comeTo_20 : decode cX12_comeTo 20 = .ok (.iload_n 3, 1) := by decide +kernel
theorem dX12_comeTo_21 : decode cX12_comeTo 21 = .ok (.ior, 1) := by decide +kernel
theorem dX12_comeTo_22 : decode cX12_comeTo 22 = .ok (.istore_n 2, 1) := by decide +kernel
theorem dX12_comeTo_23 : decode cX12_comeTo 23 = .ok (.goto (-19), 3) := by decide +kernel
theorem dX12_comeTo_26 : decode cX12_comeTo 26 = .ok (.iload_n 2, 1) := by decide +kernel
theorem dX12_comeTo_27 : decode cX12_comeTo 27 = .ok (.ireturn, 1) := by decide +kernel
theorem dX12_isCutOff_0 : decode cX12_isCutOff 0 = .ok (.iconst 1, 1) := by decide +kernel
theorem dX12_isCutOff_1 : decode cX12_isCutOff 1 = .ok (.iload_n 0, 1) := by decide +kernel
theorem dX12_isCutOff_2 : decode cX12_isCutOff 2 = .ok (.ishl, 1) := by decide +kernel
theorem dX12_isCutOff_3 : decode cX12_isCutOff 3 = .ok (.iload_n 2, 1) := by decide +kernel
theorem dX12_isCutOff_4 : decode cX12_isCutOff 4 = .ok (.invokestatic 466, 3) := by decide +kernel
theorem dX12_isCutOff_7 : decode cX12_isCutOff 7 = .ok (.iload_n 1, 1) := by decide +kernel
theorem dX12_isCutOff_8 : decode cX12_isCutOff 8 = .ok (.invokestatic 270, 3) := by decide +kernel
theorem dX12_isCutOff_11 : decode cX12_isCutOff 11 = .ok (.ifCond .ne 7, 3) := by decide +kernel
theorem dX12_isCutOff_14 : decode cX12_isCutOff 14 = .ok (.iconst 1, 1) := by decide +kernel
theorem dX12_isCutOff_15 : decode cX12_isCutOff 15 = .ok (.goto 4, 3) := by decide +kernel
theorem dX12_isCutOff_18 : decode cX12_isCutOff 18 = .ok (.iconst 0, 1) := by decide +kernel
theorem dX12_isCutOff_19 : decode cX12_isCutOff 19 = .ok (.ireturn, 1) := by decide +kernel
theorem dX12_isCutByOne_0 : decode cX12_isCutByOne 0 = .ok (.iload_n 3, 1) := by decide +kernel
theorem dX12_isCutByOne_1 : decode cX12_isCutByOne 1 = .ok (.istore 4, 2) := by decide +kernel
theorem dX12_isCutByOne_3 : decode cX12_isCutByOne 3 = .ok (.iload 4, 2) := by decide +kernel
theorem dX12_isCutByOne_5 : decode cX12_isCutByOne 5 = .ok (.bipush 30, 2) := by decide +kernel
theorem dX12_isCutByOne_7 : decode cX12_isCutByOne 7 = .ok (.if_icmp .ge 48, 3) := by decide +kernel
theorem dX12_isCutByOne_10 : decode cX12_isCutByOne 10 = .ok (.iload_n 2, 1) := by decide +kernel
theorem dX12_isCutByOne_11 : decode cX12_isCutByOne 11 = .ok (.iload 4, 2) := by decide +kernel
theorem dX12_isCutByOne_13 : decode cX12_isCutByOne 13 = .ok (.invokestatic 270, 3) := by decide +kernel
theorem dX12_isCutByOne_16 : decode cX12_isCutByOne 16 = .ok (.ifCond .eq 33, 3) := by decide +kernel
theorem dX12_isCutByOne_19 : decode cX12_isCutByOne 19 = .ok (.iload 4, 2) := by decide +kernel
theorem dX12_isCutByOne_21 : decode cX12_isCutByOne 21 = .ok (.iload_n 0, 1) := by decide +kernel
theorem dX12_isCutByOne_22 : decode cX12_isCutByOne 22 = .ok (.if_icmp .eq 27, 3) := by decide +kernel
theorem dX12_isCutByOne_25 : decode cX12_isCutByOne 25 = .ok (.iload 4, 2) := by decide +kernel
theorem dX12_isCutByOne_27 : decode cX12_isCutByOne 27 = .ok (.iload_n 1, 1) := by decide +kernel
theorem dX12_isCutByOne_28 : decode cX12_isCutByOne 28 = .ok (.if_icmp .eq 21, 3) := by decide +kernel
theorem dX12_isCutByOne_31 : decode cX12_isCutByOne 31 = .ok (.iload_n 0, 1) := by decide +kernel
theorem dX12_isCutByOne_32 : decode cX12_isCutByOne 32 = .ok (.iload_n 1, 1) := by decide +kernel
theorem dX12_isCutByOne_33 : decode cX12_isCutByOne 33 = .ok (.iload_n 2, 1) := by decide +kernel
theorem dX12_isCutByOne_34 : decode cX12_isCutByOne 34 = .ok (.iconst 1, 1) := by decide +kernel
theorem dX12_isCutByOne_35 : decode cX12_isCutByOne 35 = .ok (.iload 4, 2) := by decide +kernel
theorem dX12_isCutByOne_37 : decode cX12_isCutByOne 37 = .ok (.ishl, 1) := by decide +kernel
theorem dX12_isCutByOne_38 : decode cX12_isCutByOne 38 = .ok (.iconst (-1), 1) := by decide +kernel
theorem dX12_isCutByOne_39 : decode cX12_isCutByOne 39 = .ok (.ixor, 1) := by decide +kernel
theorem dX12_isCutByOne_40 : decode cX12_isCutByOne 40 = .ok (.iand, 1) := by decide +kernel
theorem dX12_isCutByOne_41 : decode cX12_isCutByOne 41 = .ok (.invokestatic 469, 3) := by decide +kernel
theorem dX12_isCutByOne_44 : decode cX12_isCutByOne 44 = .ok (.ifCond .eq 5, 3) := by decide +kernel
theorem dX12_isCutByOne_47 : decode cX12_isCutByOne 47 = .ok (.iconst 1, 1) := by decide +kernel
theorem dX12_isCutByOne_48 : decode cX12_isCutByOne 48 = .ok (.ireturn, 1) := by decide +kernel
theorem dX12_isCutByOne_49 : decode cX12_isCutByOne 49 = .ok (.iinc 4 1, 3) := by decide +kernel
theorem dX12_isCutByOne_52 : decode cX12_isCutByOne 52 = .ok (.goto (-49), 3) := by decide +kernel
theorem dX12_isCutByOne_55 : decode cX12_isCutByOne 55 = .ok (.iconst 0, 1) := by decide +kernel
theorem dX12_isCutByOne_56 : decode cX12_isCutByOne 56 = .ok (.ireturn, 1) := by decide +kernel
theorem dX12_isCutByTwo_0 : decode cX12_isCutByTwo 0 = .ok (.iload_n 3, 1) := by decide +kernel
theorem dX12_isCutByTwo_1 : decode cX12_isCutByTwo 1 = .ok (.istore 4, 2) := by decide +kernel
theorem dX12_isCutByTwo_3 : decode cX12_isCutByTwo 3 = .ok (.iload 4, 2) := by decide +kernel
theorem dX12_isCutByTwo_5 : decode cX12_isCutByTwo 5 = .ok (.bipush 30, 2) := by decide +kernel
theorem dX12_isCutByTwo_7 : decode cX12_isCutByTwo 7 = .ok (.if_icmp .ge 52, 3) := by decide +kernel
theorem dX12_isCutByTwo_10 : decode cX12_isCutByTwo 10 = .ok (.iload_n 2, 1) := by decide +kernel
theorem dX12_isCutByTwo_11 : decode cX12_isCutByTwo 11 = .ok (.iload 4, 2) := by decide +kernel
theorem dX12_isCutByTwo_13 : decode cX12_isCutByTwo 13 = .ok (.invokestatic 270, 3) := by decide +kernel
theorem dX12_isCutByTwo_16 : decode cX12_isCutByTwo 16 = .ok (.ifCond .eq 37, 3) := by decide +kernel
theorem dX12_isCutByTwo_19 : decode cX12_isCutByTwo 19 = .ok (.iload 4, 2) := by decide +kernel
theorem dX12_isCutByTwo_21 : decode cX12_isCutByTwo 21 = .ok (.iload_n 0, 1) := by decide +kernel
theorem dX12_isCutByTwo_22 : decode cX12_isCutByTwo 22 = .ok (.if_icmp .eq 31, 3) := by decide +kernel
theorem dX12_isCutByTwo_25 : decode cX12_isCutByTwo 25 = .ok (.iload 4, 2) := by decide +kernel
theorem dX12_isCutByTwo_27 : decode cX12_isCutByTwo 27 = .ok (.iload_n 1, 1) := by decide +kernel
theorem dX12_isCutByTwo_28 : decode cX12_isCutByTwo 28 = .ok (.if_icmp .eq 25, 3) := by decide +kernel
theorem dX12_isCutByTwo_31 : decode cX12_isCutByTwo 31 = .ok (.iload_n 0, 1) := by decide +kernel
theorem dX12_isCutByTwo_32 : decode cX12_isCutByTwo 32 = .ok (.iload_n 1, 1) := by decide +kernel
theorem dX12_isCutByTwo_33 : decode cX12_isCutByTwo 33 = .ok (.iload_n 2, 1) := by decide +kernel
theorem dX12_isCutByTwo_34 : decode cX12_isCutByTwo 34 = .ok (.iconst 1, 1) := by decide +kernel
theorem dX12_isCutByTwo_35 : decode cX12_isCutByTwo 35 = .ok (.iload 4, 2) := by decide +kernel
theorem dX12_isCutByTwo_37 : decode cX12_isCutByTwo 37 = .ok (.ishl, 1) := by decide +kernel
theorem dX12_isCutByTwo_38 : decode cX12_isCutByTwo 38 = .ok (.iconst (-1), 1) := by decide +kernel
theorem dX12_isCutByTwo_39 : decode cX12_isCutByTwo 39 = .ok (.ixor, 1) := by decide +kernel
theorem dX12_isCutByTwo_40 : decode cX12_isCutByTwo 40 = .ok (.iand, 1) := by decide +kernel
theorem dX12_isCutByTwo_41 : decode cX12_isCutByTwo 41 = .ok (.iload 4, 2) := by decide +kernel
theorem dX12_isCutByTwo_43 : decode cX12_isCutByTwo 43 = .ok (.iconst 1, 1) := by decide +kernel
theorem dX12_isCutByTwo_44 : decode cX12_isCutByTwo 44 = .ok (.iadd, 1) := by decide +kernel
theorem dX12_isCutByTwo_45 : decode cX12_isCutByTwo 45 = .ok (.invokestatic 472, 3) := by decide +kernel
theorem dX12_isCutByTwo_48 : decode cX12_isCutByTwo 48 = .ok (.ifCond .eq 5, 3) := by decide +kernel
theorem dX12_isCutByTwo_51 : decode cX12_isCutByTwo 51 = .ok (.iconst 1, 1) := by decide +kernel
theorem dX12_isCutByTwo_52 : decode cX12_isCutByTwo 52 = .ok (.ireturn, 1) := by decide +kernel
theorem dX12_isCutByTwo_53 : decode cX12_isCutByTwo 53 = .ok (.iinc 4 1, 3) := by decide +kernel
theorem dX12_isCutByTwo_56 : decode cX12_isCutByTwo 56 = .ok (.goto (-53), 3) := by decide +kernel
theorem dX12_isCutByTwo_59 : decode cX12_isCutByTwo 59 = .ok (.iconst 0, 1) := by decide +kernel
theorem dX12_isCutByTwo_60 : decode cX12_isCutByTwo 60 = .ok (.ireturn, 1) := by decide +kernel
theorem dX12_isCutByThree_0 : decode cX12_isCutByThree 0 = .ok (.iconst 0, 1) := by decide +kernel
theorem dX12_isCutByThree_1 : decode cX12_isCutByThree 1 = .ok (.istore_n 3, 1) := by decide +kernel
theorem dX12_isCutByThree_2 : decode cX12_isCutByThree 2 = .ok (.iload_n 3, 1) := by decide +kernel
theorem dX12_isCutByThree_3 : decode cX12_isCutByThree 3 = .ok (.bipush 30, 2) := by decide +kernel
theorem dX12_isCutByThree_5 : decode cX12_isCutByThree 5 = .ok (.if_icmp .ge 47, 3) := by decide +kernel
theorem dX12_isCutByThree_8 : decode cX12_isCutByThree 8 = .ok (.iload_n 2, 1) := by decide +kernel
theorem dX12_isCutByThree_9 : decode cX12_isCutByThree 9 = .ok (.iload_n 3, 1) := by decide +kernel
theorem dX12_isCutByThree_10 : decode cX12_isCutByThree 10 = .ok (.invokestatic 270, 3) := by decide +kernel
theorem dX12_isCutByThree_13 : decode cX12_isCutByThree 13 = .ok (.ifCond .eq 33, 3) := by decide +kernel
theorem dX12_isCutByThree_16 : decode cX12_isCutByThree 16 = .ok (.iload_n 3, 1) := by decide +kernel
theorem dX12_isCutByThree_17 : decode cX12_isCutByThree 17 = .ok (.iload_n 0, 1) := by decide +kernel
theorem dX12_isCutByThree_18 : decode cX12_isCutByThree 18 = .ok (.if_icmp .eq 28, 3) := by decide +kernel
theorem dX12_isCutByThree_21 : decode cX12_isCutByThree 21 = .ok (.iload_n 3, 1) := by decide +kernel
theorem dX12_isCutByThree_22 : decode cX12_isCutByThree 22 = .ok (.iload_n 1, 1) := by decide +kernel
theorem dX12_isCutByThree_23 : decode cX12_isCutByThree 23 = .ok (.if_icmp .eq 23, 3) := by decide +kernel
theorem dX12_isCutByThree_26 : decode cX12_isCutByThree 26 = .ok (.iload_n 0, 1) := by decide +kernel
theorem dX12_isCutByThree_27 : decode cX12_isCutByThree 27 = .ok (.iload_n 1, 1) := by decide +kernel
theorem dX12_isCutByThree_28 : decode cX12_isCutByThree 28 = .ok (.iload_n 2, 1) := by decide +kernel
theorem dX12_isCutByThree_29 : decode cX12_isCutByThree 29 = .ok (.iconst 1, 1) := by decide +kernel
theorem dX12_isCutByThree_30 : decode cX12_isCutByThree 30 = .ok (.iload_n 3, 1) := by decide +kernel
theorem dX12_isCutByThree_31 : decode cX12_isCutByThree 31 = .ok (.ishl, 1) := by decide +kernel
theorem dX12_isCutByThree_32 : decode cX12_isCutByThree 32 = .ok (.iconst (-1), 1) := by decide +kernel
theorem dX12_isCutByThree_33 : decode cX12_isCutByThree 33 = .ok (.ixor, 1) := by decide +kernel
theorem dX12_isCutByThree_34 : decode cX12_isCutByThree 34 = .ok (.iand, 1) := by decide +kernel
theorem dX12_isCutByThree_35 : decode cX12_isCutByThree 35 = .ok (.iload_n 3, 1) := by decide +kernel
theorem dX12_isCutByThree_36 : decode cX12_isCutByThree 36 = .ok (.iconst 1, 1) := by decide +kernel
theorem dX12_isCutByThree_37 : decode cX12_isCutByThree 37 = .ok (.iadd, 1) := by decide +kernel
theorem dX12_isCutByThree_38 : decode cX12_isCutByThree 38 = .ok (.invokestatic 476, 3) := by decide +kernel
theorem dX12_isCutByThree_41 : decode cX12_isCutByThree 41 = .ok (.ifCond .eq 5, 3) := by decide +kernel
theorem dX12_isCutByThree_44 : decode cX12_isCutByThree 44 = .ok (.iconst 1, 1) := by decide +kernel
theorem dX12_isCutByThree_45 : decode cX12_isCutByThree 45 = .ok (.ireturn, 1) := by decide +kernel
theorem dX12_isCutByThree_46 : decode cX12_isCutByThree 46 = .ok (.iinc 3 1, 3) := by decide +kernel
theorem dX12_isCutByThree_49 : decode cX12_isCutByThree 49 = .ok (.goto (-47), 3) := by decide +kernel
theorem dX12_isCutByThree_52 : decode cX12_isCutByThree 52 = .ok (.iconst 0, 1) := by decide +kernel
theorem dX12_isCutByThree_53 : decode cX12_isCutByThree 53 = .ok (.ireturn, 1) := by decide +kernel
theorem dX12_cut_0 : decode cX12_cut 0 = .ok (.aload_n 0, 1) := by decide +kernel
theorem dX12_cut_1 : decode cX12_cut 1 = .ok (.iload_n 1, 1) := by decide +kernel
theorem dX12_cut_2 : decode cX12_cut 2 = .ok (.invokevirtual 99, 3) := by decide +kernel
theorem dX12_cut_5 : decode cX12_cut 5 = .ok (.ifCond .eq 27, 3) := by decide +kernel
theorem dX12_cut_8 : decode cX12_cut 8 = .ok (.aload_n 0, 1) := by decide +kernel
theorem dX12_cut_9 : decode cX12_cut 9 = .ok (.iload_n 2, 1) := by decide +kernel
theorem dX12_cut_10 : decode cX12_cut 10 = .ok (.invokevirtual 99, 3) := by decide +kernel
theorem dX12_cut_13 : decode cX12_cut 13 = .ok (.ifCond .eq 19, 3) := by decide +kernel
theorem dX12_cut_16 : decode cX12_cut 16 = .ok (.iload_n 1, 1) := by decide +kernel
theorem dX12_cut_17 : decode cX12_cut 17 = .ok (.iload_n 2, 1) := by decide +kernel
theorem dX12_cut_18 : decode cX12_cut 18 = .ok (.if_icmp .eq 14, 3) := by decide +kernel
theorem dX12_cut_21 : decode cX12_cut 21 = .ok (.iload_n 1, 1) := by decide +kernel
theorem dX12_cut_22 : decode cX12_cut 22 = .ok (.invokestatic 361, 3) := by decide +kernel
theorem dX12_cut_25 : decode cX12_cut 25 = .ok (.iload_n 2, 1) := by decide +kernel
theorem dX12_cut_26 : decode cX12_cut 26 = .ok (.invokestatic 270, 3) := by decide +kernel
theorem dX12_cut_29 : decode cX12_cut 29 = .ok (.ifCond .eq 5, 3) := by decide +kernel
theorem dX12_cut_32 : decode cX12_cut 32 = .ok (.iconst (-1), 1) := by decide +kernel
theorem dX12_cut_33 : decode cX12_cut 33 = .ok (.ireturn, 1) := by decide +kernel
theorem dX12_cut_34 : decode cX12_cut 34 = .ok (.aload_n 0, 1) := by decide +kernel
theorem dX12_cut_35 : decode cX12_cut 35 = .ok (.iload_n 1, 1) := by decide +kernel
theorem dX12_cut_36 : decode cX12_cut 36 = .ok (.iload_n 2, 1) := by decide +kernel
theorem dX12_cut_37 : decode cX12_cut 37 = .ok (.invokevirtual 330, 3) := by decide +kernel
theorem dX12_cut_40 : decode cX12_cut 40 = .ok (.iconst (-1), 1) := by decide +kernel
theorem dX12_cut_41 : decode cX12_cut 41 = .ok (.if_icmp .ne 5, 3) := by decide +kernel
theorem dX12_cut_44 : decode cX12_cut 44 = .ok (.iconst 0, 1) := by decide +kernel
theorem dX12_cut_45 : decode cX12_cut 45 = .ok (.ireturn, 1) := by decide +kernel
theorem dX12_cut_46 : decode cX12_cut 46 = .ok (.aload_n 0, 1) := by decide +kernel
theorem dX12_cut_47 : decode cX12_cut 47 = .ok (.invokevirtual 324, 3) := by decide +kernel
theorem dX12_cut_50 : decode cX12_cut 50 = .ok (.istore_n 3, 1) := by decide +kernel
theorem dX12_cut_51 : decode cX12_cut 51 = .ok (.iload_n 1, 1) := by decide +kernel
theorem dX12_cut_52 : decode cX12_cut 52 = .ok (.iload_n 2, 1) := by decide +kernel
theorem dX12_cut_53 : decode cX12_cut 53 = .ok (.iload_n 3, 1) := by decide +kernel
theorem dX12_cut_54 : decode cX12_cut 54 = .ok (.iconst 0, 1) := by decide +kernel
theorem dX12_cut_55 : decode cX12_cut 55 = .ok (.invokestatic 472, 3) := by decide +kernel
theorem dX12_cut_58 : decode cX12_cut 58 = .ok (.ifCond .eq 7, 3) := by decide +kernel
theorem dX12_cut_61 : decode cX12_cut 61 = .ok (.iconst 1, 1) := by decide +kernel
theorem dX12_cut_62 : decode cX12_cut 62 = .ok (.goto 31, 3) := by decide +kernel
theorem dX12_cut_65 : decode cX12_cut 65 = .ok (.iload_n 1, 1) := by decide +kernel
theorem dX12_cut_66 : decode cX12_cut 66 = .ok (.iload_n 2, 1) := by decide +kernel
theorem dX12_cut_67 : decode cX12_cut 67 = .ok (.iload_n 3, 1) := by decide +kernel
theorem dX12_cut_68 : decode cX12_cut 68 = .ok (.iconst 0, 1) := by decide +kernel
theorem dX12_cut_69 : decode cX12_cut 69 = .ok (.invokestatic 476, 3) := by decide +kernel
theorem dX12_cut_72 : decode cX12_cut 72 = .ok (.ifCond .eq 7, 3) := by decide +kernel
theorem dX12_cut_75 : decode cX12_cut 75 = .ok (.iconst 2, 1) := by decide +kernel
theorem dX12_cut_76 : decode cX12_cut 76 = .ok (.goto 17, 3) := by decide +kernel
theorem dX12_cut_79 : decode cX12_cut 79 = .ok (.iload_n 1, 1) := by decide +kernel
theorem dX12_cut_80 : decode cX12_cut 80 = .ok (.iload_n 2, 1) := by decide +kernel
theorem dX12_cut_81 : decode cX12_cut 81 = .ok (.iload_n 3, 1) := by decide +kernel
theorem dX12_cut_82 : decode cX12_cut 82 = .ok (.invokestatic 479, 3) := by decide +kernel
theorem dX12_cut_85 : decode cX12_cut 85 = .ok (.ifCond .eq 7, 3) := by decide +kernel
theorem dX12_cut_88 : decode cX12_cut 88 = .ok (.iconst 3, 1) := by decide +kernel
theorem dX12_cut_89 : decode cX12_cut 89 = .ok (.goto 4, 3) := by decide +kernel
theorem dX12_cut_92 : decode cX12_cut 92 = .ok (.iconst 4, 1) := by decide +kernel
theorem dX12_cut_93 : decode cX12_cut 93 = .ok (.ireturn, 1) := by decide +kernel
theorem dX12_roomsOf_0 : decode cX12_roomsOf 0 = .ok (.iload_n 0, 1) := by decide +kernel
theorem dX12_roomsOf_1 : decode cX12_roomsOf 1 = .ok (.istore_n 1, 1) := by decide +kernel
theorem dX12_roomsOf_2 : decode cX12_roomsOf 2 = .ok (.iconst 0, 1) := by decide +kernel
theorem dX12_roomsOf_3 : decode cX12_roomsOf 3 = .ok (.istore_n 2, 1) := by decide +kernel
theorem dX12_roomsOf_4 : decode cX12_roomsOf 4 = .ok (.iload_n 1, 1) := by decide +kernel
theorem dX12_roomsOf_5 : decode cX12_roomsOf 5 = .ok (.ifCond .eq 22, 3) := by decide +kernel
theorem dX12_roomsOf_8 : decode cX12_roomsOf 8 = .ok (.iload_n 1, 1) := by decide +kernel
theorem dX12_roomsOf_9 : decode cX12_roomsOf 9 = .ok (.iload_n 1, 1) := by decide +kernel
theorem dX12_roomsOf_10 : decode cX12_roomsOf 10 = .ok (.iload_n 1, 1) := by decide +kernel
theorem dX12_roomsOf_11 : decode cX12_roomsOf 11 = .ok (.ineg, 1) := by decide +kernel
theorem dX12_roomsOf_12 : decode cX12_roomsOf 12 = .ok (.iand, 1) := by decide +kernel
theorem dX12_roomsOf_13 : decode cX12_roomsOf 13 = .ok (.iload_n 1, 1) := by decide +kernel
theorem dX12_roomsOf_14 : decode cX12_roomsOf 14 = .ok (.invokestatic 466, 3) := by decide +kernel
theorem dX12_roomsOf_17 : decode cX12_roomsOf 17 = .ok (.iconst (-1), 1) := by decide +kernel
theorem dX12_roomsOf_18 : decode cX12_roomsOf 18 = .ok (.ixor, 1) := by decide +kernel
theorem dX12_roomsOf_19 : decode cX12_roomsOf 19 = .ok (.iand, 1) := by decide +kernel
theorem dX12_roomsOf_20 : decode cX12_roomsOf 20 = .ok (.istore_n 1, 1) := by decide +kernel
theorem dX12_roomsOf_21 : decode cX12_roomsOf 21 = .ok (.iinc 2 1, 3) := by decide +kernel
theorem dX12_roomsOf_24 : decode cX12_roomsOf 24 = .ok (.goto (-20), 3) := by decide +kernel
theorem dX12_roomsOf_27 : decode cX12_roomsOf 27 = .ok (.iload_n 2, 1) := by decide +kernel
theorem dX12_roomsOf_28 : decode cX12_roomsOf 28 = .ok (.ireturn, 1) := by decide +kernel
theorem dX12_narrows_0 : decode cX12_narrows 0 = .ok (.aload_n 0, 1) := by decide +kernel
theorem dX12_narrows_1 : decode cX12_narrows 1 = .ok (.invokevirtual 324, 3) := by decide +kernel
theorem dX12_narrows_4 : decode cX12_narrows 4 = .ok (.istore_n 1, 1) := by decide +kernel
theorem dX12_narrows_5 : decode cX12_narrows 5 = .ok (.iconst 0, 1) := by decide +kernel
theorem dX12_narrows_6 : decode cX12_narrows 6 = .ok (.istore_n 2, 1) := by decide +kernel
theorem dX12_narrows_7 : decode cX12_narrows 7 = .ok (.iload_n 1, 1) := by decide +kernel
theorem dX12_narrows_8 : decode cX12_narrows 8 = .ok (.invokestatic 482, 3) := by decide +kernel
theorem dX12_narrows_11 : decode cX12_narrows 11 = .ok (.istore_n 3, 1) := by decide +kernel
theorem dX12_narrows_12 : decode cX12_narrows 12 = .ok (.iconst 0, 1) := by decide +kernel
theorem dX12_narrows_13 : decode cX12_narrows 13 = .ok (.istore 4, 2) := by decide +kernel
theorem dX12_narrows_15 : decode cX12_narrows 15 = .ok (.iload 4, 2) := by decide +kernel
theorem dX12_narrows_17 : decode cX12_narrows 17 = .ok (.bipush 30, 2) := by decide +kernel
theorem dX12_narrows_19 : decode cX12_narrows 19 = .ok (.if_icmp .ge 47, 3) := by decide +kernel
theorem dX12_narrows_22 : decode cX12_narrows 22 = .ok (.iload_n 1, 1) := by decide +kernel
theorem dX12_narrows_23 : decode cX12_narrows 23 = .ok (.iload 4, 2) := by decide +kernel
theorem dX12_narrows_25 : decode cX12_narrows 25 = .ok (.invokestatic 270, 3) := by decide +kernel
theorem dX12_narrows_28 : decode cX12_narrows 28 = .ok (.ifCond .ne 6, 3) := by decide +kernel
theorem dX12_narrows_31 : decode cX12_narrows 31 = .ok (.goto 29, 3) := by decide +kernel
theorem dX12_narrows_34 : decode cX12_narrows 34 = .ok (.iload_n 2, 1) := by decide +kernel
theorem dX12_narrows_35 : decode cX12_narrows 35 = .ok (.iload_n 1, 1) := by decide +kernel
theorem dX12_narrows_36 : decode cX12_narrows 36 = .ok (.iconst 1, 1) := by decide +kernel
theorem dX12_narrows_37 : decode cX12_narrows 37 = .ok (.iload 4, 2) := by decide +kernel
theorem dX12_narrows_39 : decode cX12_narrows 39 = .ok (.ishl, 1) := by decide +kernel
theorem dX12_narrows_40 : decode cX12_narrows 40 = .ok (.iconst (-1), 1) := by decide +kernel
theorem dX12_narrows_41 : decode cX12_narrows 41 = .ok (.ixor, 1) := by decide +kernel
theorem dX12_narrows_42 : decode cX12_narrows 42 = .ok (.iand, 1) := by decide +kernel
theorem dX12_narrows_43 : decode cX12_narrows 43 = .ok (.invokestatic 482, 3) := by decide +kernel
theorem dX12_narrows_46 : decode cX12_narrows 46 = .ok (.iload_n 3, 1) := by decide +kernel
theorem dX12_narrows_47 : decode cX12_narrows 47 = .ok (.if_icmp .le 10, 3) := by decide +kernel
theorem dX12_narrows_50 : decode cX12_narrows 50 = .ok (.iconst 1, 1) := by decide +kernel
theorem dX12_narrows_51 : decode cX12_narrows 51 = .ok (.iload 4, 2) := by decide +kernel
theorem dX12_narrows_53 : decode cX12_narrows 53 = .ok (.ishl, 1) := by decide +kernel
theorem dX12_narrows_54 : decode cX12_narrows 54 = .ok (.goto 4, 3) := by decide +kernel
theorem dX12_narrows_57 : decode cX12_narrows 57 = .ok (.iconst 0, 1) := by decide +kernel
theorem dX12_narrows_58 : decode cX12_narrows 58 = .ok (.ior, 1) := by decide +kernel
theorem dX12_narrows_59 : decode cX12_narrows 59 = .ok (.istore_n 2, 1) := by decide +kernel
theorem dX12_narrows_60 : decode cX12_narrows 60 = .ok (.iinc 4 1, 3) := by decide +kernel
theorem dX12_narrows_63 : decode cX12_narrows 63 = .ok (.goto (-48), 3) := by decide +kernel
theorem dX12_narrows_66 : decode cX12_narrows 66 = .ok (.iload_n 2, 1) := by decide +kernel
theorem dX12_narrows_67 : decode cX12_narrows 67 = .ok (.ireturn, 1) := by decide +kernel
theorem dX12_cost_0 : decode cX12_cost 0 = .ok (.iload_n 1, 1) := by decide +kernel
theorem dX12_cost_1 : decode cX12_cost 1 = .ok (.iconst 0, 1) := by decide +kernel
theorem dX12_cost_2 : decode cX12_cost 2 = .ok (.iconst 4, 1) := by decide +kernel
theorem dX12_cost_3 : decode cX12_cost 3 = .ok (.invokestatic 87, 3) := by decide +kernel
theorem dX12_cost_6 : decode cX12_cost 6 = .ok (.ifCond .eq 23, 3) := by decide +kernel
theorem dX12_cost_9 : decode cX12_cost 9 = .ok (.iload_n 2, 1) := by decide +kernel
theorem dX12_cost_10 : decode cX12_cost 10 = .ok (.iconst 0, 1) := by decide +kernel
theorem dX12_cost_11 : decode cX12_cost 11 = .ok (.bipush 6, 2) := by decide +kernel
theorem dX12_cost_13 : decode cX12_cost 13 = .ok (.invokestatic 87, 3) := by decide +kernel
theorem dX12_cost_16 : decode cX12_cost 16 = .ok (.ifCond .eq 13, 3) := by decide +kernel
theorem dX12_cost_19 : decode cX12_cost 19 = .ok (.iload_n 3, 1) := by decide +kernel
theorem dX12_cost_20 : decode cX12_cost 20 = .ok (.iconst 0, 1) := by decide +kernel
theorem dX12_cost_21 : decode cX12_cost 21 = .ok (.bipush 99, 2) := by decide +kernel
theorem dX12_cost_23 : decode cX12_cost 23 = .ok (.invokestatic 87, 3) := by decide +kernel
theorem dX12_cost_26 : decode cX12_cost 26 = .ok (.ifCond .ne 5, 3) := by decide +kernel
theorem dX12_cost_29 : decode cX12_cost 29 = .ok (.iconst 0, 1) := by decide +kernel
theorem dX12_cost_30 : decode cX12_cost 30 = .ok (.ireturn, 1) := by decide +kernel
theorem dX12_cost_31 : decode cX12_cost 31 = .ok (.aload_n 0, 1) := by decide +kernel
theorem dX12_cost_32 : decode cX12_cost 32 = .ok (.getfield 7, 3) := by decide +kernel
theorem dX12_cost_35 : decode cX12_cost 35 = .ok (.sipush 130, 3) := by decide +kernel
theorem dX12_cost_38 : decode cX12_cost 38 = .ok (.bipush 7, 2) := by decide +kernel
theorem dX12_cost_40 : decode cX12_cost 40 = .ok (.iload_n 1, 1) := by decide +kernel
theorem dX12_cost_41 : decode cX12_cost 41 = .ok (.imul, 1) := by decide +kernel
theorem dX12_cost_42 : decode cX12_cost 42 = .ok (.iadd, 1) := by decide +kernel
theorem dX12_cost_43 : decode cX12_cost 43 = .ok (.iload_n 2, 1) := by decide +kernel
theorem dX12_cost_44 : decode cX12_cost 44 = .ok (.iadd, 1) := by decide +kernel
theorem dX12_cost_45 : decode cX12_cost 45 = .ok (.iload_n 3, 1) := by decide +kernel
theorem dX12_cost_46 : decode cX12_cost 46 = .ok (.iastore, 1) := by decide +kernel
theorem dX12_cost_47 : decode cX12_cost 47 = .ok (.iconst 1, 1) := by decide +kernel
theorem dX12_cost_48 : decode cX12_cost 48 = .ok (.ireturn, 1) := by decide +kernel
theorem dX12_canBeIt_0 : decode cX12_canBeIt 0 = .ok (.aload_n 0, 1) := by decide +kernel
theorem dX12_canBeIt_1 : decode cX12_canBeIt 1 = .ok (.getfield 77, 3) := by decide +kernel
theorem dX12_canBeIt_4 : decode cX12_canBeIt 4 = .ok (.iload_n 2, 1) := by decide +kernel
theorem dX12_canBeIt_5 : decode cX12_canBeIt 5 = .ok (.iaload, 1) := by decide +kernel
theorem dX12_canBeIt_6 : decode cX12_canBeIt 6 = .ok (.iload_n 3, 1) := by decide +kernel
theorem dX12_canBeIt_7 : decode cX12_canBeIt 7 = .ok (.if_icmp .ge 23, 3) := by decide +kernel
theorem dX12_canBeIt_10 : decode cX12_canBeIt 10 = .ok (.iload_n 1, 1) := by decide +kernel
theorem dX12_canBeIt_11 : decode cX12_canBeIt 11 = .ok (.ifCond .eq 15, 3) := by decide +kernel
theorem dX12_canBeIt_14 : decode cX12_canBeIt 14 = .ok (.aload_n 0, 1) := by decide +kernel
theorem dX12_canBeIt_15 : decode cX12_canBeIt 15 = .ok (.getfield 71, 3) := by decide +kernel
theorem dX12_canBeIt_18 : decode cX12_canBeIt 18 = .ok (.iload_n 1, 1) := by decide +kernel
theorem dX12_canBeIt_19 : decode cX12_canBeIt 19 = .ok (.iconst 1, 1) := by decide +kernel
theorem dX12_canBeIt_20 : decode cX12_canBeIt 20 = .ok (.isub, 1) := by decide +kernel
theorem dX12_canBeIt_21 : decode cX12_canBeIt 21 = .ok (.iaload, 1) := by decide +kernel
theorem dX12_canBeIt_22 : decode cX12_canBeIt 22 = .ok (.iload_n 2, 1) := by decide +kernel
theorem dX12_canBeIt_23 : decode cX12_canBeIt 23 = .ok (.if_icmp .eq 7, 3) := by decide +kernel
theorem dX12_canBeIt_26 : decode cX12_canBeIt 26 = .ok (.iconst 1, 1) := by decide +kernel
theorem dX12_canBeIt_27 : decode cX12_canBeIt 27 = .ok (.goto 4, 3) := by decide +kernel
theorem dX12_canBeIt_30 : decode cX12_canBeIt 30 = .ok (.iconst 0, 1) := by decide +kernel
theorem dX12_canBeIt_31 : decode cX12_canBeIt 31 = .ok (.ireturn, 1) := by decide +kernel
theorem dX12_isNextRoster_0 : decode cX12_isNextRoster 0 = .ok (.iload_n 2, 1) := by decide +kernel
theorem dX12_isNextRoster_1 : decode cX12_isNextRoster 1 = .ok (.istore_n 3, 1) := by decide +kernel
theorem dX12_isNextRoster_2 : decode cX12_isNextRoster 2 = .ok (.iload_n 3, 1) := by decide +kernel
theorem dX12_isNextRoster_3 : decode cX12_isNextRoster 3 = .ok (.ifCond .lt 131, 3) := by decide +kernel
theorem dX12_isNextRoster_6 : decode cX12_isNextRoster 6 = .ok (.iload_n 3, 1) := by decide +kernel
theorem dX12_isNextRoster_7 : decode cX12_isNextRoster 7 = .ok (.bipush 7, 2) := by decide +kernel
theorem dX12_isNextRoster_9 : decode cX12_isNextRoster 9 = .ok (.if_icmp .ge 125, 3) := by decide +kernel
theorem dX12_isNextRoster_12 : decode cX12_isNextRoster 12 = .ok (.aload_n 0, 1) := by decide +kernel
theorem dX12_isNextRoster_13 : decode cX12_isNextRoster 13 = .ok (.getfield 71, 3) := by decide +kernel
theorem dX12_isNextRoster_16 : decode cX12_isNextRoster 16 = .ok (.iload_n 3, 1) := by decide +kernel
theorem dX12_isNextRoster_17 : decode cX12_isNextRoster 17 = .ok (.iaload, 1) := by decide +kernel
theorem dX12_isNextRoster_18 : decode cX12_isNextRoster 18 = .ok (.istore 4, 2) := by decide +kernel
theorem dX12_isNextRoster_20 : decode cX12_isNextRoster 20 = .ok (.iload 4, 2) := by decide +kernel
theorem dX12_isNextRoster_22 : decode cX12_isNextRoster 22 = .ok (.ifCond .lt 14, 3) := by decide +kernel
theorem dX12_isNextRoster_25 : decode cX12_isNextRoster 25 = .ok (.aload_n 0, 1) := by decide +kernel
theorem dX12_isNextRoster_26 : decode cX12_isNextRoster 26 = .ok (.getfield 77, 3) := by decide +kernel
theorem dX12_isNextRoster_29 : decode cX12_isNextRoster 29 = .ok (.iload 4, 2) := by decide +kernel
theorem dX12_isNextRoster_31 : decode cX12_isNextRoster 31 = .ok (.dup2, 1) := by decide +kernel
theorem dX12_isNextRoster_32 : decode cX12_isNextRoster 32 = .ok (.iaload, 1) := by decide +kernel
theorem dX12_isNextRoster_33 : decode cX12_isNextRoster 33 = .ok (.iconst 1, 1) := by decide +kernel
theorem dX12_isNextRoster_34 : decode cX12_isNextRoster 34 = .ok (.isub, 1) := by decide +kernel
theorem dX12_isNextRoster_35 : decode cX12_isNextRoster 35 = .ok (.iastore, 1) := by decide +kernel
theorem dX12_isNextRoster_36 : decode cX12_isNextRoster 36 = .ok (.iinc 4 1, 3) := by decide +kernel
theorem dX12_isNextRoster_39 : decode cX12_isNextRoster 39 = .ok (.iload 4, 2) := by decide +kernel
theorem dX12_isNextRoster_41 : decode cX12_isNextRoster 41 = .ok (.aload_n 0, 1) := by decide +kernel
theorem dX12_isNextRoster_42 : decode cX12_isNextRoster 42 = .ok (.getfield 7, 3) := by decide +kernel
theorem dX12_isNextRoster_45 : decode cX12_isNextRoster 45 = .ok (.iconst 0, 1) := by decide +kernel
theorem dX12_isNextRoster_46 : decode cX12_isNextRoster 46 = .ok (.iaload, 1) := by decide +kernel
theorem dX12_isNextRoster_47 : decode cX12_isNextRoster 47 = .ok (.if_icmp .ge 20, 3) := by decide +kernel
theorem dX12_isNextRoster_50 : decode cX12_isNextRoster 50 = .ok (.aload_n 0, 1) := by decide +kernel
theorem dX12_isNextRoster_51 : decode cX12_isNextRoster 51 = .ok (.iload_n 3, 1) := by decide +kernel
theorem dX12_isNextRoster_52 : decode cX12_isNextRoster 52 = .ok (.iload 4, 2) := by decide +kernel
theorem dX12_isNextRoster_54 : decode cX12_isNextRoster 54 = .ok (.iload_n 1, 1) := by decide +kernel
theorem dX12_isNextRoster_55 : decode cX12_isNextRoster 55 = .ok (.invokevirtual 485, 3) := by decide +kernel
theorem dX12_isNextRoster_58 : decode cX12_isNextRoster 58 = .ok (.ifCond .ne 9, 3) := by decide +kernel
theorem dX12_isNextRoster_61 : decode cX12_isNextRoster 61 = .ok (.iinc 4 1, 3) := by decide +kernel
theorem dX12_isNextRoster_64 : decode cX12_isNextRoster 64 = .ok (.goto (-25), 3) := by decide +kernel
theorem dX12_isNextRoster_67 : decode cX12_isNextRoster 67 = .ok (.aload_n 0, 1) := by decide +kernel
theorem dX12_isNextRoster_68 : decode cX12_isNextRoster 68 = .ok (.getfield 71, 3) := by decide +kernel
theorem dX12_isNextRoster_71 : decode cX12_isNextRoster 71 = .ok (.iload_n 3, 1) := by decide +kernel
theorem dX12_isNextRoster_72 : decode cX12_isNextRoster 72 = .ok (.iload 4, 2) := by decide +kernel
theorem dX12_isNextRoster_74 : decode cX12_isNextRoster 74 = .ok (.aload_n 0, 1) := by decide +kernel
theorem dX12_isNextRoster_75 : decode cX12_isNextRoster 75 = .ok (.getfield 7, 3) := by decide +kernel
theorem dX12_isNextRoster_78 : decode cX12_isNextRoster 78 = .ok (.iconst 0, 1) := by decide +kernel
theorem dX12_isNextRoster_79 : decode cX12_isNextRoster 79 = .ok (.iaload, 1) := by decide +kernel
theorem dX12_isNextRoster_80 : decode cX12_isNextRoster 80 = .ok (.if_icmp .ge 8, 3) := by decide +kernel
theorem dX12_isNextRoster_83 : decode cX12_isNextRoster 83 = .ok (.iload 4, 2) := by decide +kernel
theorem dX12_isNextRoster_85 : decode cX12_isNextRoster 85 = .ok (.goto 4, 3) := by decide +kernel
theorem dX12_isNextRoster_88 : decode cX12_isNextRoster 88 = .ok (.iconst (-1), 1) := by decide +kernel
theorem dX12_isNextRoster_89 : decode cX12_isNextRoster 89 = .ok (.iastore, 1) := by decide +kernel
theorem dX12_isNextRoster_90 : decode cX12_isNextRoster 90 = .ok (.iload 4, 2) := by decide +kernel
theorem dX12_isNextRoster_92 : decode cX12_isNextRoster 92 = .ok (.aload_n 0, 1) := by decide +kernel
theorem dX12_isNextRoster_93 : decode cX12_isNextRoster 93 = .ok (.getfield 7, 3) := by decide +kernel
theorem dX12_isNextRoster_96 : decode cX12_isNextRoster 96 = .ok (.iconst 0, 1) := by decide +kernel
theorem dX12_isNextRoster_97 : decode cX12_isNextRoster 97 = .ok (.iaload, 1) := by decide +kernel
theorem dX12_isNextRoster_98 : decode cX12_isNextRoster 98 = .ok (.if_icmp .ge 14, 3) := by decide +kernel
theorem dX12_isNextRoster_101 : decode cX12_isNextRoster 101 = .ok (.aload_n 0, 1) := by decide +kernel
theorem dX12_isNextRoster_102 : decode cX12_isNextRoster 102 = .ok (.getfield 77, 3) := by decide +kernel
theorem dX12_isNextRoster_105 : decode cX12_isNextRoster 105 = .ok (.iload 4, 2) := by decide +kernel
theorem dX12_isNextRoster_107 : decode cX12_isNextRoster 107 = .ok (.dup2, 1) := by decide +kernel
theorem dX12_isNextRoster_108 : decode cX12_isNextRoster 108 = .ok (.iaload, 1) := by decide +kernel
theorem dX12_isNextRoster_109 : decode cX12_isNextRoster 109 = .ok (.iconst 1, 1) := by decide +kernel
theorem dX12_isNextRoster_110 : decode cX12_isNextRoster 110 = .ok (.iadd, 1) := by decide +kernel
theorem dX12_isNextRoster_111 : decode cX12_isNextRoster 111 = .ok (.iastore, 1) := by decide +kernel
theorem dX12_isNextRoster_112 : decode cX12_isNextRoster 112 = .ok (.iload_n 3, 1) := by decide +kernel
theorem dX12_isNextRoster_113 : decode cX12_isNextRoster 113 = .ok (.iload 4, 2) := by decide +kernel
theorem dX12_isNextRoster_115 : decode cX12_isNextRoster 115 = .ok (.aload_n 0, 1) := by decide +kernel
theorem dX12_isNextRoster_116 : decode cX12_isNextRoster 116 = .ok (.getfield 7, 3) := by decide +kernel
theorem dX12_isNextRoster_119 : decode cX12_isNextRoster 119 = .ok (.iconst 0, 1) := by decide +kernel
theorem dX12_isNextRoster_120 : decode cX12_isNextRoster 120 = .ok (.iaload, 1) := by decide +kernel
theorem dX12_isNextRoster_121 : decode cX12_isNextRoster 121 = .ok (.if_icmp .ge 7, 3) := by decide +kernel
theorem dX12_isNextRoster_124 : decode cX12_isNextRoster 124 = .ok (.iconst 1, 1) := by decide +kernel
theorem dX12_isNextRoster_125 : decode cX12_isNextRoster 125 = .ok (.goto 4, 3) := by decide +kernel
theorem dX12_isNextRoster_128 : decode cX12_isNextRoster 128 = .ok (.iconst (-1), 1) := by decide +kernel
theorem dX12_isNextRoster_129 : decode cX12_isNextRoster 129 = .ok (.iadd, 1) := by decide +kernel
theorem dX12_isNextRoster_130 : decode cX12_isNextRoster 130 = .ok (.istore_n 3, 1) := by decide +kernel
theorem dX12_isNextRoster_131 : decode cX12_isNextRoster 131 = .ok (.goto (-129), 3) := by decide +kernel
theorem dX12_isNextRoster_134 : decode cX12_isNextRoster 134 = .ok (.iload_n 3, 1) := by decide +kernel
theorem dX12_isNextRoster_135 : decode cX12_isNextRoster 135 = .ok (.ifCond .lt 7, 3) := by decide +kernel
theorem dX12_isNextRoster_138 : decode cX12_isNextRoster 138 = .ok (.iconst 1, 1) := by decide +kernel
theorem dX12_isNextRoster_139 : decode cX12_isNextRoster 139 = .ok (.goto 4, 3) := by decide +kernel
theorem dX12_isNextRoster_142 : decode cX12_isNextRoster 142 = .ok (.iconst 0, 1) := by decide +kernel
theorem dX12_isNextRoster_143 : decode cX12_isNextRoster 143 = .ok (.ireturn, 1) := by decide +kernel
theorem dX12_layRoster_0 : decode cX12_layRoster 0 = .ok (.iconst 0, 1) := by decide +kernel
theorem dX12_layRoster_1 : decode cX12_layRoster 1 = .ok (.istore_n 2, 1) := by decide +kernel
theorem dX12_layRoster_2 : decode cX12_layRoster 2 = .ok (.iload_n 2, 1) := by decide +kernel
theorem dX12_layRoster_3 : decode cX12_layRoster 3 = .ok (.iconst 5, 1) := by decide +kernel
theorem dX12_layRoster_4 : decode cX12_layRoster 4 = .ok (.if_icmp .ge 16, 3) := by decide +kernel
theorem dX12_layRoster_7 : decode cX12_layRoster 7 = .ok (.aload_n 0, 1) := by decide +kernel
theorem dX12_layRoster_8 : decode cX12_layRoster 8 = .ok (.getfield 77, 3) := by decide +kernel
theorem dX12_layRoster_11 : decode cX12_layRoster 11 = .ok (.iload_n 2, 1) := by decide +kernel
theorem dX12_layRoster_12 : decode cX12_layRoster 12 = .ok (.iconst 0, 1) := by decide +kernel
theorem dX12_layRoster_13 : decode cX12_layRoster 13 = .ok (.iastore, 1) := by decide +kernel
theorem dX12_layRoster_14 : decode cX12_layRoster 14 = .ok (.iinc 2 1, 3) := by decide +kernel
theorem dX12_layRoster_17 : decode cX12_layRoster 17 = .ok (.goto (-15), 3) := by decide +kernel
theorem dX12_layRoster_20 : decode cX12_layRoster 20 = .ok (.iconst 0, 1) := by decide +kernel
theorem dX12_layRoster_21 : decode cX12_layRoster 21 = .ok (.istore_n 2, 1) := by decide +kernel
theorem dX12_layRoster_22 : decode cX12_layRoster 22 = .ok (.iload_n 2, 1) := by decide +kernel
theorem dX12_layRoster_23 : decode cX12_layRoster 23 = .ok (.bipush 7, 2) := by decide +kernel
theorem dX12_layRoster_25 : decode cX12_layRoster 25 = .ok (.if_icmp .ge 16, 3) := by decide +kernel
theorem dX12_layRoster_28 : decode cX12_layRoster 28 = .ok (.aload_n 0, 1) := by decide +kernel
theorem dX12_layRoster_29 : decode cX12_layRoster 29 = .ok (.getfield 71, 3) := by decide +kernel
theorem dX12_layRoster_32 : decode cX12_layRoster 32 = .ok (.iload_n 2, 1) := by decide +kernel
theorem dX12_layRoster_33 : decode cX12_layRoster 33 = .ok (.iconst (-1), 1) := by decide +kernel
theorem dX12_layRoster_34 : decode cX12_layRoster 34 = .ok (.iastore, 1) := by decide +kernel
theorem dX12_layRoster_35 : decode cX12_layRoster 35 = .ok (.iinc 2 1, 3) := by decide +kernel
theorem dX12_layRoster_38 : decode cX12_layRoster 38 = .ok (.goto (-16), 3) := by decide +kernel
theorem dX12_layRoster_41 : decode cX12_layRoster 41 = .ok (.ldc_w 435, 3) := by decide +kernel
theorem dX12_layRoster_44 : decode cX12_layRoster 44 = .ok (.istore_n 2, 1) := by decide +kernel
theorem dX12_layRoster_45 : decode cX12_layRoster 45 = .ok (.aload_n 0, 1) := by decide +kernel
theorem dX12_layRoster_46 : decode cX12_layRoster 46 = .ok (.iload_n 1, 1) := by decide +kernel
theorem dX12_layRoster_47 : decode cX12_layRoster 47 = .ok (.iconst 0, 1) := by decide +kernel
theorem dX12_layRoster_48 : decode cX12_layRoster 48 = .ok (.invokevirtual 488, 3) := by decide +kernel
theorem dX12_layRoster_51 : decode cX12_layRoster 51 = .ok (.istore_n 3, 1) := by decide +kernel
theorem dX12_layRoster_52 : decode cX12_layRoster 52 = .ok (.iload_n 3, 1) := by decide +kernel
theorem dX12_layRoster_53 : decode cX12_layRoster 53 = .ok (.ifCond .eq 99, 3) := by decide +kernel
theorem dX12_layRoster_56 : decode cX12_layRoster 56 = .ok (.iconst 0, 1) := by decide +kernel
theorem dX12_layRoster_57 : decode cX12_layRoster 57 = .ok (.istore 4, 2) := by decide +kernel
theorem dX12_layRoster_59 : decode cX12_layRoster 59 = .ok (.iconst 0, 1) := by decide +kernel
theorem dX12_layRoster_60 : decode cX12_layRoster 60 = .ok (.istore 5, 2) := by decide +kernel
theorem dX12_layRoster_62 : decode cX12_layRoster 62 = .ok (.iload 5, 2) := by decide +kernel
theorem dX12_layRoster_64 : decode cX12_layRoster 64 = .ok (.bipush 7, 2) := by decide +kernel
theorem dX12_layRoster_66 : decode cX12_layRoster 66 = .ok (.if_icmp .ge 36, 3) := by decide +kernel
theorem dX12_layRoster_69 : decode cX12_layRoster 69 = .ok (.iload 4, 2) := by decide +kernel
theorem dX12_layRoster_71 : decode cX12_layRoster 71 = .ok (.aload_n 0, 1) := by decide +kernel
theorem dX12_layRoster_72 : decode cX12_layRoster 72 = .ok (.getfield 7, 3) := by decide +kernel
theorem dX12_layRoster_75 : decode cX12_layRoster 75 = .ok (.sipush 130, 3) := by decide +kernel
theorem dX12_layRoster_78 : decode cX12_layRoster 78 = .ok (.bipush 7, 2) := by decide +kernel
theorem dX12_layRoster_80 : decode cX12_layRoster 80 = .ok (.aload_n 0, 1) := by decide +kernel
theorem dX12_layRoster_81 : decode cX12_layRoster 81 = .ok (.getfield 71, 3) := by decide +kernel
theorem dX12_layRoster_84 : decode cX12_layRoster 84 = .ok (.iload 5, 2) := by decide +kernel
theorem dX12_layRoster_86 : decode cX12_layRoster 86 = .ok (.iaload, 1) := by decide +kernel
theorem dX12_layRoster_87 : decode cX12_layRoster 87 = .ok (.imul, 1) := by decide +kernel
theorem dX12_layRoster_88 : decode cX12_layRoster 88 = .ok (.iadd, 1) := by decide +kernel
theorem dX12_layRoster_89 : decode cX12_layRoster 89 = .ok (.iload 5, 2) := by decide +kernel
theorem dX12_layRoster_91 : decode cX12_layRoster 91 = .ok (.iadd, 1) := by decide +kernel
theorem dX12_layRoster_92 : decode cX12_layRoster 92 = .ok (.iaload, 1) := by decide +kernel
theorem dX12_layRoster_93 : decode cX12_layRoster 93 = .ok (.iadd, 1) := by decide +kernel
theorem dX12_layRoster_94 : decode cX12_layRoster 94 = .ok (.istore 4, 2) := by decide +kernel
theorem dX12_layRoster_96 : decode cX12_layRoster 96 = .ok (.iinc 5 1, 3) := by decide +kernel
theorem dX12_layRoster_99 : decode cX12_layRoster 99 = .ok (.goto (-37), 3) := by decide +kernel
theorem dX12_layRoster_102 : decode cX12_layRoster 102 = .ok (.iload 4, 2) := by decide +kernel
theorem dX12_layRoster_104 : decode cX12_layRoster 104 = .ok (.iload_n 2, 1) := by decide +kernel
theorem dX12_layRoster_105 : decode cX12_layRoster 105 = .ok (.if_icmp .ge 36, 3) := by decide +kernel
theorem dX12_layRoster_108 : decode cX12_layRoster 108 = .ok (.iload 4, 2) := by decide +kernel
theorem dX12_layRoster_110 : decode cX12_layRoster 110 = .ok (.istore_n 2, 1) := by decide +kernel
theorem dX12_layRoster_111 : decode cX12_layRoster 111 = .ok (.iconst 0, 1) := by decide +kernel
theorem dX12_layRoster_112 : decode cX12_layRoster 112 = .ok (.istore 5, 2) := by decide +kernel
theorem dX12_layRoster_114 : decode cX12_layRoster 114 = .ok (.iload 5, 2) := by decide +kernel
theorem dX12_layRoster_116 : decode cX12_layRoster 116 = .ok (.bipush 7, 2) := by decide +kernel
theorem dX12_layRoster_118 : decode cX12_layRoster 118 = .ok (.if_icmp .ge 23, 3) := by decide +kernel
theorem dX12_layRoster_121 : decode cX12_layRoster 121 = .ok (.aload_n 0, 1) := by decide +kernel
theorem dX12_layRoster_122 : decode cX12_layRoster 122 = .ok (.getfield 74, 3) := by decide +kernel
theorem dX12_layRoster_125 : decode cX12_layRoster 125 = .ok (.iload 5, 2) := by decide +kernel
theorem dX12_layRoster_127 : decode cX12_layRoster 127 = .ok (.aload_n 0, 1) := by decide +kernel
theorem dX12_layRoster_128 : decode cX12_layRoster 128 = .ok (.getfield 71, 3) := by decide +kernel
theorem dX12_layRoster_131 : decode cX12_layRoster 131 = .ok (.iload 5, 2) := by decide +kernel
theorem dX12_layRoster_133 : decode cX12_layRoster 133 = .ok (.iaload, 1) := by decide +kernel
theorem dX12_layRoster_134 : decode cX12_layRoster 134 = .ok (.iastore, 1) := by decide +kernel
theorem dX12_layRoster_135 : decode cX12_layRoster 135 = .ok (.iinc 5 1, 3) := by decide +kernel
theorem dX12_layRoster_138 : decode cX12_layRoster 138 = .ok (.goto (-24), 3) := by decide +kernel
theorem dX12_layRoster_141 : decode cX12_layRoster 141 = .ok (.aload_n 0, 1) := by decide +kernel
theorem dX12_layRoster_142 : decode cX12_layRoster 142 = .ok (.iload_n 1, 1) := by decide +kernel
theorem dX12_layRoster_143 : decode cX12_layRoster 143 = .ok (.bipush 6, 2) := by decide +kernel
theorem dX12_layRoster_145 : decode cX12_layRoster 145 = .ok (.invokevirtual 488, 3) := by decide +kernel
theorem dX12_layRoster_148 : decode cX12_layRoster 148 = .ok (.istore_n 3, 1) := by decide +kernel
theorem dX12_layRoster_149 : decode cX12_layRoster 149 = .ok (.goto (-97), 3) := by decide +kernel
theorem dX12_layRoster_152 : decode cX12_layRoster 152 = .ok (.iload_n 2, 1) := by decide +kernel
theorem dX12_layRoster_153 : decode cX12_layRoster 153 = .ok (.ldc_w 435, 3) := by decide +kernel
theorem dX12_layRoster_156 : decode cX12_layRoster 156 = .ok (.if_icmp .ne 7, 3) := by decide +kernel
theorem dX12_layRoster_159 : decode cX12_layRoster 159 = .ok (.iconst (-1), 1) := by decide +kernel
theorem dX12_layRoster_160 : decode cX12_layRoster 160 = .ok (.goto 4, 3) := by decide +kernel
theorem dX12_layRoster_163 : decode cX12_layRoster 163 = .ok (.iload_n 2, 1) := by decide +kernel
theorem dX12_layRoster_164 : decode cX12_layRoster 164 = .ok (.ireturn, 1) := by decide +kernel
theorem dX12_roster_0 : decode cX12_roster 0 = .ok (.iload_n 1, 1) := by decide +kernel
theorem dX12_roster_1 : decode cX12_roster 1 = .ok (.iconst 1, 1) := by decide +kernel
theorem dX12_roster_2 : decode cX12_roster 2 = .ok (.bipush 7, 2) := by decide +kernel
theorem dX12_roster_4 : decode cX12_roster 4 = .ok (.invokestatic 87, 3) := by decide +kernel
theorem dX12_roster_7 : decode cX12_roster 7 = .ok (.ifCond .eq 13, 3) := by decide +kernel
theorem dX12_roster_10 : decode cX12_roster 10 = .ok (.iload_n 2, 1) := by decide +kernel
theorem dX12_roster_11 : decode cX12_roster 11 = .ok (.iconst (-1), 1) := by decide +kernel
theorem dX12_roster_12 : decode cX12_roster 12 = .ok (.bipush 6, 2) := by decide +kernel
theorem dX12_roster_14 : decode cX12_roster 14 = .ok (.invokestatic 87, 3) := by decide +kernel
theorem dX12_roster_17 : decode cX12_roster 17 = .ok (.ifCond .ne 5, 3) := by decide +kernel
theorem dX12_roster_20 : decode cX12_roster 20 = .ok (.iconst (-1), 1) := by decide +kernel
theorem dX12_roster_21 : decode cX12_roster 21 = .ok (.ireturn, 1) := by decide +kernel
theorem dX12_roster_22 : decode cX12_roster 22 = .ok (.aload_n 0, 1) := by decide +kernel
theorem dX12_roster_23 : decode cX12_roster 23 = .ok (.iload_n 1, 1) := by decide +kernel
theorem dX12_roster_24 : decode cX12_roster 24 = .ok (.invokevirtual 491, 3) := by decide +kernel
theorem dX12_roster_27 : decode cX12_roster 27 = .ok (.istore_n 3, 1) := by decide +kernel
theorem dX12_roster_28 : decode cX12_roster 28 = .ok (.iload_n 3, 1) := by decide +kernel
theorem dX12_roster_29 : decode cX12_roster 29 = .ok (.iconst (-1), 1) := by decide +kernel
theorem dX12_roster_30 : decode cX12_roster 30 = .ok (.if_icmp .ne 7, 3) := by decide +kernel
theorem dX12_roster_33 : decode cX12_roster 33 = .ok (.iconst (-1), 1) := by decide +kernel
theorem dX12_roster_34 : decode cX12_roster 34 = .ok (.goto 18, 3) := by decide +kernel
theorem dX12_roster_37 : decode cX12_roster 37 = .ok (.iload_n 2, 1) := by decide +kernel
theorem dX12_roster_38 : decode cX12_roster 38 = .ok (.iconst (-1), 1) := by decide +kernel
theorem dX12_roster_39 : decode cX12_roster 39 = .ok (.if_icmp .ne 7, 3) := by decide +kernel
theorem dX12_roster_42 : decode cX12_roster 42 = .ok (.iload_n 3, 1) := by decide +kernel
theorem dX12_roster_43 : decode cX12_roster 43 = .ok (.goto 9, 3) := by decide +kernel
theorem dX12_roster_46 : decode cX12_roster 46 = .ok (.aload_n 0, 1) := by decide +kernel
theorem dX12_roster_47 : decode cX12_roster 47 = .ok (.getfield 74, 3) := by decide +kernel
theorem dX12_roster_50 : decode cX12_roster 50 = .ok (.iload_n 2, 1) := by decide +kernel
theorem dX12_roster_51 : decode cX12_roster 51 = .ok (.iaload, 1) := by decide +kernel
theorem dX12_roster_52 : decode cX12_roster 52 = .ok (.ireturn, 1) := by decide +kernel
theorem dX12_swap_0 : decode cX12_swap 0 = .ok (.iload_n 1, 1) := by decide +kernel
theorem dX12_swap_1 : decode cX12_swap 1 = .ok (.iconst 1, 1) := by decide +kernel
theorem dX12_swap_2 : decode cX12_swap 2 = .ok (.bipush 7, 2) := by decide +kernel
theorem dX12_swap_4 : decode cX12_swap 4 = .ok (.invokestatic 87, 3) := by decide +kernel
theorem dX12_swap_7 : decode cX12_swap 7 = .ok (.ifCond .eq 37, 3) := by decide +kernel
theorem dX12_swap_10 : decode cX12_swap 10 = .ok (.iload_n 2, 1) := by decide +kernel
theorem dX12_swap_11 : decode cX12_swap 11 = .ok (.iconst 0, 1) := by decide +kernel
theorem dX12_swap_12 : decode cX12_swap 12 = .ok (.bipush 6, 2) := by decide +kernel
theorem dX12_swap_14 : decode cX12_swap 14 = .ok (.invokestatic 87, 3) := by decide +kernel
theorem dX12_swap_17 : decode cX12_swap 17 = .ok (.ifCond .eq 27, 3) := by decide +kernel
theorem dX12_swap_20 : decode cX12_swap 20 = .ok (.iload_n 3, 1) := by decide +kernel
theorem dX12_swap_21 : decode cX12_swap 21 = .ok (.iconst 0, 1) := by decide +kernel
theorem dX12_swap_22 : decode cX12_swap 22 = .ok (.bipush 6, 2) := by decide +kernel
theorem dX12_swap_24 : decode cX12_swap 24 = .ok (.invokestatic 87, 3) := by decide +kernel
theorem dX12_swap_27 : decode cX12_swap 27 = .ok (.ifCond .eq 17, 3) := by decide +kernel
theorem dX12_swap_30 : decode cX12_swap 30 = .ok (.iload_n 2, 1) := by decide +kernel
theorem dX12_swap_31 : decode cX12_swap 31 = .ok (.iload_n 3, 1) := by decide +kernel
theorem dX12_swap_32 : decode cX12_swap 32 = .ok (.if_icmp .eq 12, 3) := by decide +kernel
theorem dX12_swap_35 : decode cX12_swap 35 = .ok (.aload_n 0, 1) := by decide +kernel
theorem dX12_swap_36 : decode cX12_swap 36 = .ok (.iload_n 1, 1) := by decide +kernel
theorem dX12_swap_37 : decode cX12_swap 37 = .ok (.invokevirtual 491, 3) := by decide +kernel
theorem dX12_swap_40 : decode cX12_swap 40 = .ok (.iconst (-1), 1) := by decide +kernel
theorem dX12_swap_41 : decode cX12_swap 41 = .ok (.if_icmp .ne 7, 3) := by decide +kernel
theorem dX12_swap_44 : decode cX12_swap 44 = .ok (.sipush (-10000), 3) := by decide +kernel
theorem dX12_swap_47 : decode cX12_swap 47 = .ok (.ireturn, 1) := by decide +kernel
theorem dX12_swap_48 : decode cX12_swap 48 = .ok (.aload_n 0, 1) := by decide +kernel
theorem dX12_swap_49 : decode cX12_swap 49 = .ok (.getfield 74, 3) := by decide +kernel
theorem dX12_swap_52 : decode cX12_swap 52 = .ok (.iload_n 2, 1) := by decide +kernel
theorem dX12_swap_53 : decode cX12_swap 53 = .ok (.iaload, 1) := by decide +kernel
theorem dX12_swap_54 : decode cX12_swap 54 = .ok (.istore 4, 2) := by decide +kernel
theorem dX12_swap_56 : decode cX12_swap 56 = .ok (.aload_n 0, 1) := by decide +kernel
theorem dX12_swap_57 : decode cX12_swap 57 = .ok (.getfield 74, 3) := by decide +kernel
theorem dX12_swap_60 : decode cX12_swap 60 = .ok (.iload_n 3, 1) := by decide +kernel
theorem dX12_swap_61 : decode cX12_swap 61 = .ok (.iaload, 1) := by decide +kernel
theorem dX12_swap_62 : decode cX12_swap 62 = .ok (.istore 5, 2) := by decide +kernel
theorem dX12_swap_64 : decode cX12_swap 64 = .ok (.aload_n 0, 1) := by decide +kernel
theorem dX12_swap_65 : decode cX12_swap 65 = .ok (.getfield 7, 3) := by decide +kernel
theorem dX12_swap_68 : decode cX12_swap 68 = .ok (.sipush 130, 3) := by decide +kernel
theorem dX12_swap_71 : decode cX12_swap 71 = .ok (.bipush 7, 2) := by decide +kernel
theorem dX12_swap_73 : decode cX12_swap 73 = .ok (.iload 4, 2) := by decide +kernel
theorem dX12_swap_75 : decode cX12_swap 75 = .ok (.imul, 1) := by decide +kernel
theorem dX12_swap_76 : decode cX12_swap 76 = .ok (.iadd, 1) := by decide +kernel
theorem dX12_swap_77 : decode cX12_swap 77 = .ok (.iload_n 2, 1) := by decide +kernel
theorem dX12_swap_78 : decode cX12_swap 78 = .ok (.iadd, 1) := by decide +kernel
theorem dX12_swap_79 : decode cX12_swap 79 = .ok (.iaload, 1) := by decide +kernel
theorem dX12_swap_80 : decode cX12_swap 80 = .ok (.aload_n 0, 1) := by decide +kernel
theorem dX12_swap_81 : decode cX12_swap 81 = .ok (.getfield 7, 3) := by decide +kernel
theorem dX12_swap_84 : decode cX12_swap 84 = .ok (.sipush 130, 3) := by decide +kernel
theorem dX12_swap_87 : decode cX12_swap 87 = .ok (.bipush 7, 2) := by decide +kernel
theorem dX12_swap_89 : decode cX12_swap 89 = .ok (.iload 5, 2) := by decide +kernel
theorem dX12_swap_91 : decode cX12_swap 91 = .ok (.imul, 1) := by decide +kernel
theorem dX12_swap_92 : decode cX12_swap 92 = .ok (.iadd, 1) := by decide +kernel
theorem dX12_swap_93 : decode cX12_swap 93 = .ok (.iload_n 3, 1) := by decide +kernel
theorem dX12_swap_94 : decode cX12_swap 94 = .ok (.iadd, 1) := by decide +kernel
theorem dX12_swap_95 : decode cX12_swap 95 = .ok (.iaload, 1) := by decide +kernel
theorem dX12_swap_96 : decode cX12_swap 96 = .ok (.iadd, 1) := by decide +kernel
theorem dX12_swap_97 : decode cX12_swap 97 = .ok (.aload_n 0, 1) := by decide +kernel
theorem dX12_swap_98 : decode cX12_swap 98 = .ok (.getfield 7, 3) := by decide +kernel
theorem dX12_swap_101 : decode cX12_swap 101 = .ok (.sipush 130, 3) := by decide +kernel
theorem dX12_swap_104 : decode cX12_swap 104 = .ok (.bipush 7, 2) := by decide +kernel
theorem dX12_swap_106 : decode cX12_swap 106 = .ok (.iload 5, 2) := by decide +kernel
theorem dX12_swap_108 : decode cX12_swap 108 = .ok (.imul, 1) := by decide +kernel
theorem dX12_swap_109 : decode cX12_swap 109 = .ok (.iadd, 1) := by decide +kernel
theorem dX12_swap_110 : decode cX12_swap 110 = .ok (.iload_n 2, 1) := by decide +kernel
theorem dX12_swap_111 : decode cX12_swap 111 = .ok (.iadd, 1) := by decide +kernel
theorem dX12_swap_112 : decode cX12_swap 112 = .ok (.iaload, 1) := by decide +kernel
theorem dX12_swap_113 : decode cX12_swap 113 = .ok (.isub, 1) := by decide +kernel
theorem dX12_swap_114 : decode cX12_swap 114 = .ok (.aload_n 0, 1) := by decide +kernel
theorem dX12_swap_115 : decode cX12_swap 115 = .ok (.getfield 7, 3) := by decide +kernel
theorem dX12_swap_118 : decode cX12_swap 118 = .ok (.sipush 130, 3) := by decide +kernel
theorem dX12_swap_121 : decode cX12_swap 121 = .ok (.bipush 7, 2) := by decide +kernel
theorem dX12_swap_123 : decode cX12_swap 123 = .ok (.iload 4, 2) := by decide +kernel
theorem dX12_swap_125 : decode cX12_swap 125 = .ok (.imul, 1) := by decide +kernel
theorem dX12_swap_126 : decode cX12_swap 126 = .ok (.iadd, 1) := by decide +kernel
theorem dX12_swap_127 : decode cX12_swap 127 = .ok (.iload_n 3, 1) := by decide +kernel
theorem dX12_swap_128 : decode cX12_swap 128 = .ok (.iadd, 1) := by decide +kernel
theorem dX12_swap_129 : decode cX12_swap 129 = .ok (.iaload, 1) := by decide +kernel
theorem dX12_swap_130 : decode cX12_swap 130 = .ok (.isub, 1) := by decide +kernel
theorem dX12_swap_131 : decode cX12_swap 131 = .ok (.ireturn, 1) := by decide +kernel
theorem dX12_seen_0 : decode cX12_seen 0 = .ok (.iload_n 1, 1) := by decide +kernel
theorem dX12_seen_1 : decode cX12_seen 1 = .ok (.iconst (-1), 1) := by decide +kernel
theorem dX12_seen_2 : decode cX12_seen 2 = .ok (.if_icmp .ne 12, 3) := by decide +kernel
theorem dX12_seen_5 : decode cX12_seen 5 = .ok (.aload_n 0, 1) := by decide +kernel
theorem dX12_seen_6 : decode cX12_seen 6 = .ok (.getfield 7, 3) := by decide +kernel
theorem dX12_seen_9 : decode cX12_seen 9 = .ok (.iconst 4, 1) := by decide +kernel
theorem dX12_seen_10 : decode cX12_seen 10 = .ok (.iconst 0, 1) := by decide +kernel
theorem dX12_seen_11 : decode cX12_seen 11 = .ok (.iastore, 1) := by decide +kernel
theorem dX12_seen_12 : decode cX12_seen 12 = .ok (.iconst 0, 1) := by decide +kernel
theorem dX12_seen_13 : decode cX12_seen 13 = .ok (.ireturn, 1) := by decide +kernel
theorem dX12_seen_14 : decode cX12_seen 14 = .ok (.iload_n 1, 1) := by decide +kernel
theorem dX12_seen_15 : decode cX12_seen 15 = .ok (.invokestatic 91, 3) := by decide +kernel
theorem dX12_seen_18 : decode cX12_seen 18 = .ok (.ifCond .eq 24, 3) := by decide +kernel
theorem dX12_seen_21 : decode cX12_seen 21 = .ok (.iload_n 2, 1) := by decide +kernel
theorem dX12_seen_22 : decode cX12_seen 22 = .ok (.iconst 0, 1) := by decide +kernel
theorem dX12_seen_23 : decode cX12_seen 23 = .ok (.bipush 30, 2) := by decide +kernel
theorem dX12_seen_25 : decode cX12_seen 25 = .ok (.invokestatic 87, 3) := by decide +kernel
theorem dX12_seen_28 : decode cX12_seen 28 = .ok (.ifCond .eq 14, 3) := by decide +kernel
theorem dX12_seen_31 : decode cX12_seen 31 = .ok (.aload_n 0, 1) := by decide +kernel
theorem dX12_seen_32 : decode cX12_seen 32 = .ok (.getfield 7, 3) := by decide +kernel
theorem dX12_seen_35 : decode cX12_seen 35 = .ok (.iconst 4, 1) := by decide +kernel
theorem dX12_seen_36 : decode cX12_seen 36 = .ok (.iaload, 1) := by decide +kernel
theorem dX12_seen_37 : decode cX12_seen 37 = .ok (.bipush 6, 2) := by decide +kernel
theorem dX12_seen_39 : decode cX12_seen 39 = .ok (.if_icmp .ne 6, 3) := by decide +kernel
theorem dX12_seen_42 : decode cX12_seen 42 = .ok (.bipush (-2), 2) := by decide +kernel
theorem dX12_seen_44 : decode cX12_seen 44 = .ok (.ireturn, 1) := by decide +kernel
theorem dX12_seen_45 : decode cX12_seen 45 = .ok (.aload_n 0, 1) := by decide +kernel
theorem dX12_seen_46 : decode cX12_seen 46 = .ok (.getfield 7, 3) := by decide +kernel
theorem dX12_seen_49 : decode cX12_seen 49 = .ok (.sipush 165, 3) := by decide +kernel
theorem dX12_seen_52 : decode cX12_seen 52 = .ok (.iconst 2, 1) := by decide +kernel
theorem dX12_seen_53 : decode cX12_seen 53 = .ok (.aload_n 0, 1) := by decide +kernel
theorem dX12_seen_54 : decode cX12_seen 54 = .ok (.getfield 7, 3) := by decide +kernel
theorem dX12_seen_57 : decode cX12_seen 57 = .ok (.iconst 4, 1) := by decide +kernel
theorem dX12_seen_58 : decode cX12_seen 58 = .ok (.iaload, 1) := by decide +kernel
theorem dX12_seen_59 : decode cX12_seen 59 = .ok (.imul, 1) := by decide +kernel
theorem dX12_seen_60 : decode cX12_seen 60 = .ok (.iadd, 1) := by decide +kernel
theorem dX12_seen_61 : decode cX12_seen 61 = .ok (.iload_n 1, 1) := by decide +kernel
theorem dX12_seen_62 : decode cX12_seen 62 = .ok (.iastore, 1) := by decide +kernel
theorem dX12_seen_63 : decode cX12_seen 63 = .ok (.aload_n 0, 1) := by decide +kernel
theorem dX12_seen_64 : decode cX12_seen 64 = .ok (.getfield 7, 3) := by decide +kernel
theorem dX12_seen_67 : decode cX12_seen 67 = .ok (.sipush 165, 3) := by decide +kernel
theorem dX12_seen_70 : decode cX12_seen 70 = .ok (.iconst 2, 1) := by decide +kernel
theorem dX12_seen_71 : decode cX12_seen 71 = .ok (.aload_n 0, 1) := by decide +kernel
theorem dX12_seen_72 : decode cX12_seen 72 = .ok (.getfield 7, 3) := by decide +kernel
theorem dX12_seen_75 : decode cX12_seen 75 = .ok (.iconst 4, 1) := by decide +kernel
theorem dX12_seen_76 : decode cX12_seen 76 = .ok (.iaload, 1) := by decide +kernel
theorem dX12_seen_77 : decode cX12_seen 77 = .ok (.imul, 1) := by decide +kernel
theorem dX12_seen_78 : decode cX12_seen 78 = .ok (.iadd, 1) := by decide +kernel
theorem dX12_seen_79 : decode cX12_seen 79 = .ok (.iconst 1, 1) := by decide +kernel
theorem dX12_seen_80 : decode cX12_seen 80 = .ok (.iadd, 1) := by decide +kernel
theorem dX12_seen_81 : decode cX12_seen 81 = .ok (.iload_n 2, 1) := by decide +kernel
theorem dX12_seen_82 : decode cX12_seen 82 = .ok (.iastore, 1) := by decide +kernel
theorem dX12_seen_83 : decode cX12_seen 83 = .ok (.aload_n 0, 1) := by decide +kernel
theorem dX12_seen_84 : decode cX12_seen 84 = .ok (.getfield 7, 3) := by decide +kernel
theorem dX12_seen_87 : decode cX12_seen 87 = .ok (.iconst 4, 1) := by decide +kernel
theorem dX12_seen_88 : decode cX12_seen 88 = .ok (.dup2, 1) := by decide +kernel
theorem dX12_seen_89 : decode cX12_seen 89 = .ok (.iaload, 1) := by decide +kernel
theorem dX12_seen_90 : decode cX12_seen 90 = .ok (.iconst 1, 1) := by decide +kernel
theorem dX12_seen_91 : decode cX12_seen 91 = .ok (.iadd, 1) := by decide +kernel
theorem dX12_seen_92 : decode cX12_seen 92 = .ok (.iastore, 1) := by decide +kernel
theorem dX12_seen_93 : decode cX12_seen 93 = .ok (.aload_n 0, 1) := by decide +kernel
theorem dX12_seen_94 : decode cX12_seen 94 = .ok (.getfield 7, 3) := by decide +kernel
theorem dX12_seen_97 : decode cX12_seen 97 = .ok (.iconst 4, 1) := by decide +kernel
theorem dX12_seen_98 : decode cX12_seen 98 = .ok (.iaload, 1) := by decide +kernel
theorem dX12_seen_99 : decode cX12_seen 99 = .ok (.ireturn, 1) := by decide +kernel
theorem dX12_seenAt_0 : decode cX12_seenAt 0 = .ok (.iload_n 1, 1) := by decide +kernel
theorem dX12_seenAt_1 : decode cX12_seenAt 1 = .ok (.istore_n 3, 1) := by decide +kernel
theorem dX12_seenAt_2 : decode cX12_seenAt 2 = .ok (.iconst 0, 1) := by decide +kernel
theorem dX12_seenAt_3 : decode cX12_seenAt 3 = .ok (.istore 4, 2) := by decide +kernel
theorem dX12_seenAt_5 : decode cX12_seenAt 5 = .ok (.iload 4, 2) := by decide +kernel
theorem dX12_seenAt_7 : decode cX12_seenAt 7 = .ok (.aload_n 0, 1) := by decide +kernel
theorem dX12_seenAt_8 : decode cX12_seenAt 8 = .ok (.getfield 7, 3) := by decide +kernel
theorem dX12_seenAt_11 : decode cX12_seenAt 11 = .ok (.iconst 4, 1) := by decide +kernel
theorem dX12_seenAt_12 : decode cX12_seenAt 12 = .ok (.iaload, 1) := by decide +kernel
theorem dX12_seenAt_13 : decode cX12_seenAt 13 = .ok (.if_icmp .ge 46, 3) := by decide +kernel
theorem dX12_seenAt_16 : decode cX12_seenAt 16 = .ok (.aload_n 0, 1) := by decide +kernel
theorem dX12_seenAt_17 : decode cX12_seenAt 17 = .ok (.getfield 7, 3) := by decide +kernel
theorem dX12_seenAt_20 : decode cX12_seenAt 20 = .ok (.sipush 165, 3) := by decide +kernel
theorem dX12_seenAt_23 : decode cX12_seenAt 23 = .ok (.iconst 2, 1) := by decide +kernel
theorem dX12_seenAt_24 : decode cX12_seenAt 24 = .ok (.iload 4, 2) := by decide +kernel
theorem dX12_seenAt_26 : decode cX12_seenAt 26 = .ok (.imul, 1) := by decide +kernel
theorem dX12_seenAt_27 : decode cX12_seenAt 27 = .ok (.iadd, 1) := by decide +kernel
theorem dX12_seenAt_28 : decode cX12_seenAt 28 = .ok (.iconst 1, 1) := by decide +kernel
theorem dX12_seenAt_29 : decode cX12_seenAt 29 = .ok (.iadd, 1) := by decide +kernel
theorem dX12_seenAt_30 : decode cX12_seenAt 30 = .ok (.iaload, 1) := by decide +kernel
theorem dX12_seenAt_31 : decode cX12_seenAt 31 = .ok (.iload_n 2, 1) := by decide +kernel
theorem dX12_seenAt_32 : decode cX12_seenAt 32 = .ok (.if_icmp .ne 21, 3) := by decide +kernel
theorem dX12_seenAt_35 : decode cX12_seenAt 35 = .ok (.iload_n 3, 1) := by decide +kernel
theorem dX12_seenAt_36 : decode cX12_seenAt 36 = .ok (.iconst 1, 1) := by decide +kernel
theorem dX12_seenAt_37 : decode cX12_seenAt 37 = .ok (.aload_n 0, 1) := by decide +kernel
theorem dX12_seenAt_38 : decode cX12_seenAt 38 = .ok (.getfield 7, 3) := by decide +kernel
theorem dX12_seenAt_41 : decode cX12_seenAt 41 = .ok (.sipush 165, 3) := by decide +kernel
theorem dX12_seenAt_44 : decode cX12_seenAt 44 = .ok (.iconst 2, 1) := by decide +kernel
theorem dX12_seenAt_45 : decode cX12_seenAt 45 = .ok (.iload 4, 2) := by decide +kernel
theorem dX12_seenAt_47 : decode cX12_seenAt 47 = .ok (.imul, 1) := by decide +kernel
theorem dX12_seenAt_48 : decode cX12_seenAt 48 = .ok (.iadd, 1) := by decide +kernel
theorem dX12_seenAt_49 : decode cX12_seenAt 49 = .ok (.iaload, 1) := by decide +kernel
theorem dX12_seenAt_50 : decode cX12_seenAt 50 = .ok (.ishl, 1) := by decide +kernel
theorem dX12_seenAt_51 : decode cX12_seenAt 51 = .ok (.iand, 1) := by decide +kernel
theorem dX12_seenAt_52 : decode cX12_seenAt 52 = .ok (.istore_n 3, 1) := by decide +kernel
theorem dX12_seenAt_53 : decode cX12_seenAt 53 = .ok (.iinc 4 1, 3) := by decide +kernel
theorem dX12_seenAt_56 : decode cX12_seenAt 56 = .ok (.goto (-51), 3) := by decide +kernel
theorem dX12_seenAt_59 : decode cX12_seenAt 59 = .ok (.iload_n 3, 1) := by decide +kernel
theorem dX12_seenAt_60 : decode cX12_seenAt 60 = .ok (.ireturn, 1) := by decide +kernel
theorem dX12_isFrom_0 : decode cX12_isFrom 0 = .ok (.aload_n 0, 1) := by decide +kernel
theorem dX12_isFrom_1 : decode cX12_isFrom 1 = .ok (.iconst 1, 1) := by decide +kernel
theorem dX12_isFrom_2 : decode cX12_isFrom 2 = .ok (.iload_n 1, 1) := by decide +kernel
theorem dX12_isFrom_3 : decode cX12_isFrom 3 = .ok (.ishl, 1) := by decide +kernel
theorem dX12_isFrom_4 : decode cX12_isFrom 4 = .ok (.iconst 0, 1) := by decide +kernel
theorem dX12_isFrom_5 : decode cX12_isFrom 5 = .ok (.invokevirtual 494, 3) := by decide +kernel
theorem dX12_isFrom_8 : decode cX12_isFrom 8 = .ok (.istore_n 3, 1) := by decide +kernel
theorem dX12_isFrom_9 : decode cX12_isFrom 9 = .ok (.iconst 0, 1) := by decide +kernel
theorem dX12_isFrom_10 : decode cX12_isFrom 10 = .ok (.istore 4, 2) := by decide +kernel
theorem dX12_isFrom_12 : decode cX12_isFrom 12 = .ok (.iconst 0, 1) := by decide +kernel
theorem dX12_isFrom_13 : decode cX12_isFrom 13 = .ok (.istore 5, 2) := by decide +kernel
theorem dX12_isFrom_15 : decode cX12_isFrom 15 = .ok (.iload 5, 2) := by decide +kernel
theorem dX12_isFrom_17 : decode cX12_isFrom 17 = .ok (.aload_n 0, 1) := by decide +kernel
theorem dX12_isFrom_18 : decode cX12_isFrom 18 = .ok (.getfield 7, 3) := by decide +kernel
theorem dX12_isFrom_21 : decode cX12_isFrom 21 = .ok (.iconst 4, 1) := by decide +kernel
theorem dX12_isFrom_22 : decode cX12_isFrom 22 = .ok (.iaload, 1) := by decide +kernel
theorem dX12_isFrom_23 : decode cX12_isFrom 23 = .ok (.if_icmp .ge 51, 3) := by decide +kernel
theorem dX12_isFrom_26 : decode cX12_isFrom 26 = .ok (.aload_n 0, 1) := by decide +kernel
theorem dX12_isFrom_27 : decode cX12_isFrom 27 = .ok (.getfield 7, 3) := by decide +kernel
theorem dX12_isFrom_30 : decode cX12_isFrom 30 = .ok (.sipush 165, 3) := by decide +kernel
theorem dX12_isFrom_33 : decode cX12_isFrom 33 = .ok (.iconst 2, 1) := by decide +kernel
theorem dX12_isFrom_34 : decode cX12_isFrom 34 = .ok (.iload 5, 2) := by decide +kernel
theorem dX12_isFrom_36 : decode cX12_isFrom 36 = .ok (.imul, 1) := by decide +kernel
theorem dX12_isFrom_37 : decode cX12_isFrom 37 = .ok (.iadd, 1) := by decide +kernel
theorem dX12_isFrom_38 : decode cX12_isFrom 38 = .ok (.iconst 1, 1) := by decide +kernel
theorem dX12_isFrom_39 : decode cX12_isFrom 39 = .ok (.iadd, 1) := by decide +kernel
theorem dX12_isFrom_40 : decode cX12_isFrom 40 = .ok (.iaload, 1) := by decide +kernel
theorem dX12_isFrom_41 : decode cX12_isFrom 41 = .ok (.iload 4, 2) := by decide +kernel
theorem dX12_isFrom_43 : decode cX12_isFrom 43 = .ok (.if_icmp .le 21, 3) := by decide +kernel
theorem dX12_isFrom_46 : decode cX12_isFrom 46 = .ok (.aload_n 0, 1) := by decide +kernel
theorem dX12_isFrom_47 : decode cX12_isFrom 47 = .ok (.getfield 7, 3) := by decide +kernel
theorem dX12_isFrom_50 : decode cX12_isFrom 50 = .ok (.sipush 165, 3) := by decide +kernel
theorem dX12_isFrom_53 : decode cX12_isFrom 53 = .ok (.iconst 2, 1) := by decide +kernel
theorem dX12_isFrom_54 : decode cX12_isFrom 54 = .ok (.iload 5, 2) := by decide +kernel
theorem dX12_isFrom_56 : decode cX12_isFrom 56 = .ok (.imul, 1) := by decide +kernel
theorem dX12_isFrom_57 : decode cX12_isFrom 57 = .ok (.iadd, 1) := by decide +kernel
theorem dX12_isFrom_58 : decode cX12_isFrom 58 = .ok (.iconst 1, 1) := by decide +kernel
theorem dX12_isFrom_59 : decode cX12_isFrom 59 = .ok (.iadd, 1) := by decide +kernel
theorem dX12_isFrom_60 : decode cX12_isFrom 60 = .ok (.iaload, 1) := by decide +kernel
theorem dX12_isFrom_61 : decode cX12_isFrom 61 = .ok (.goto 5, 3) := by decide +kernel
theorem dX12_isFrom_64 : decode cX12_isFrom 64 = .ok (.iload 4, 2) := by decide +kernel
theorem dX12_isFrom_66 : decode cX12_isFrom 66 = .ok (.istore 4, 2) := by decide +kernel
theorem dX12_isFrom_68 : decode cX12_isFrom 68 = .ok (.iinc 5 1, 3) := by decide +kernel
theorem dX12_isFrom_71 : decode cX12_isFrom 71 = .ok (.goto (-56), 3) := by decide +kernel
theorem dX12_isFrom_74 : decode cX12_isFrom 74 = .ok (.iconst 1, 1) := by decide +kernel
theorem dX12_isFrom_75 : decode cX12_isFrom 75 = .ok (.istore 5, 2) := by decide +kernel
theorem dX12_isFrom_77 : decode cX12_isFrom 77 = .ok (.iload 5, 2) := by decide +kernel
theorem dX12_isFrom_79 : decode cX12_isFrom 79 = .ok (.iload 4, 2) := by decide +kernel
theorem dX12_isFrom_81 : decode cX12_isFrom 81 = .ok (.if_icmp .gt 22, 3) := by decide +kernel
theorem dX12_isFrom_84 : decode cX12_isFrom 84 = .ok (.aload_n 0, 1) := by decide +kernel
theorem dX12_isFrom_85 : decode cX12_isFrom 85 = .ok (.iload_n 3, 1) := by decide +kernel
theorem dX12_isFrom_86 : decode cX12_isFrom 86 = .ok (.invokestatic 321, 3) := by decide +kernel
theorem dX12_isFrom_89 : decode cX12_isFrom 89 = .ok (.iload_n 2, 1) := by decide +kernel
theorem dX12_isFrom_90 : decode cX12_isFrom 90 = .ok (.iand, 1) := by decide +kernel
theorem dX12_isFrom_91 : decode cX12_isFrom 91 = .ok (.iload 5, 2) := by decide +kernel
theorem dX12_isFrom_93 : decode cX12_isFrom 93 = .ok (.invokevirtual 494, 3) := by decide +kernel
theorem dX12_isFrom_96 : decode cX12_isFrom 96 = .ok (.istore_n 3, 1) := by decide +kernel
theorem dX12_isFrom_97 : decode cX12_isFrom 97 = .ok (.iinc 5 1, 3) := by decide +kernel
theorem dX12_isFrom_100 : decode cX12_isFrom 100 = .ok (.goto (-23), 3) := by decide +kernel
theorem dX12_isFrom_103 : decode cX12_isFrom 103 = .ok (.iload_n 3, 1) := by decide +kernel
theorem dX12_isFrom_104 : decode cX12_isFrom 104 = .ok (.ifCond .eq 7, 3) := by decide +kernel
theorem dX12_isFrom_107 : decode cX12_isFrom 107 = .ok (.iconst 1, 1) := by decide +kernel
theorem dX12_isFrom_108 : decode cX12_isFrom 108 = .ok (.goto 4, 3) := by decide +kernel
theorem dX12_isFrom_111 : decode cX12_isFrom 111 = .ok (.iconst 0, 1) := by decide +kernel
theorem dX12_isFrom_112 : decode cX12_isFrom 112 = .ok (.ireturn, 1) := by decide +kernel
theorem dX12_from_0 : decode cX12_from 0 = .ok (.aload_n 0, 1) := by decide +kernel
theorem dX12_from_1 : decode cX12_from 1 = .ok (.invokevirtual 324, 3) := by decide +kernel
theorem dX12_from_4 : decode cX12_from 4 = .ok (.istore_n 2, 1) := by decide +kernel
theorem dX12_from_5 : decode cX12_from 5 = .ok (.iconst 0, 1) := by decide +kernel
theorem dX12_from_6 : decode cX12_from 6 = .ok (.istore_n 3, 1) := by decide +kernel
theorem dX12_from_7 : decode cX12_from 7 = .ok (.iconst 0, 1) := by decide +kernel
theorem dX12_from_8 : decode cX12_from 8 = .ok (.istore 4, 2) := by decide +kernel
theorem dX12_from_10 : decode cX12_from 10 = .ok (.iload 4, 2) := by decide +kernel
theorem dX12_from_12 : decode cX12_from 12 = .ok (.bipush 30, 2) := by decide +kernel
theorem dX12_from_14 : decode cX12_from 14 = .ok (.if_icmp .ge 39, 3) := by decide +kernel
theorem dX12_from_17 : decode cX12_from 17 = .ok (.iload_n 3, 1) := by decide +kernel
theorem dX12_from_18 : decode cX12_from 18 = .ok (.iload_n 2, 1) := by decide +kernel
theorem dX12_from_19 : decode cX12_from 19 = .ok (.iload 4, 2) := by decide +kernel
theorem dX12_from_21 : decode cX12_from 21 = .ok (.invokestatic 270, 3) := by decide +kernel
theorem dX12_from_24 : decode cX12_from 24 = .ok (.ifCond .eq 20, 3) := by decide +kernel
theorem dX12_from_27 : decode cX12_from 27 = .ok (.aload_n 0, 1) := by decide +kernel
theorem dX12_from_28 : decode cX12_from 28 = .ok (.iload 4, 2) := by decide +kernel
theorem dX12_from_30 : decode cX12_from 30 = .ok (.iload_n 2, 1) := by decide +kernel
theorem dX12_from_31 : decode cX12_from 31 = .ok (.invokevirtual 497, 3) := by decide +kernel
theorem dX12_from_34 : decode cX12_from 34 = .ok (.ifCond .eq 10, 3) := by decide +kernel
theorem dX12_from_37 : decode cX12_from 37 = .ok (.iconst 1, 1) := by decide +kernel
theorem dX12_from_38 : decode cX12_from 38 = .ok (.iload 4, 2) := by decide +kernel
theorem dX12_from_40 : decode cX12_from 40 = .ok (.ishl, 1) := by decide +kernel
theorem dX12_from_41 : decode cX12_from 41 = .ok (.goto 4, 3) := by decide +kernel
theorem dX12_from_44 : decode cX12_from 44 = .ok (.iconst 0, 1) := by decide +kernel
theorem dX12_from_45 : decode cX12_from 45 = .ok (.ior, 1) := by decide +kernel
theorem dX12_from_46 : decode cX12_from 46 = .ok (.istore_n 3, 1) := by decide +kernel
theorem dX12_from_47 : decode cX12_from 47 = .ok (.iinc 4 1, 3) := by decide +kernel
theorem dX12_from_50 : decode cX12_from 50 = .ok (.goto (-40), 3) := by decide +kernel
theorem dX12_from_53 : decode cX12_from 53 = .ok (.iload_n 1, 1) := by decide +kernel
theorem dX12_from_54 : decode cX12_from 54 = .ok (.ifCond .eq 10, 3) := by decide +kernel
theorem dX12_from_57 : decode cX12_from 57 = .ok (.iload_n 3, 1) := by decide +kernel
theorem dX12_from_58 : decode cX12_from 58 = .ok (.invokestatic 457, 3) := by decide +kernel
theorem dX12_from_61 : decode cX12_from 61 = .ok (.goto 4, 3) := by decide +kernel
theorem dX12_from_64 : decode cX12_from 64 = .ok (.iload_n 3, 1) := by decide +kernel
theorem dX12_from_65 : decode cX12_from 65 = .ok (.ireturn, 1) := by decide +kernel
theorem dX12_divisor_0 : decode cX12_divisor 0 = .ok (.lload_n 0, 1) := by decide +kernel
theorem dX12_divisor_1 : decode cX12_divisor 1 = .ok (.lstore 4, 2) := by decide +kernel
theorem dX12_divisor_3 : decode cX12_divisor 3 = .ok (.lload_n 2, 1) := by decide +kernel
theorem dX12_divisor_4 : decode cX12_divisor 4 = .ok (.lstore 6, 2) := by decide +kernel
theorem dX12_divisor_6 : decode cX12_divisor 6 = .ok (.lload 6, 2) := by decide +kernel
theorem dX12_divisor_8 : decode cX12_divisor 8 = .ok (.lconst 0, 1) := by decide +kernel
theorem dX12_divisor_9 : decode cX12_divisor 9 = .ok (.lcmp, 1) := by decide +kernel
theorem dX12_divisor_10 : decode cX12_divisor 10 = .ok (.ifCond .eq 21, 3) := by decide +kernel
theorem dX12_divisor_13 : decode cX12_divisor 13 = .ok (.lload 4, 2) := by decide +kernel
theorem dX12_divisor_15 : decode cX12_divisor 15 = .ok (.lload 6, 2) := by decide +kernel
theorem dX12_divisor_17 : decode cX12_divisor 17 = .ok (.lrem, 1) := by decide +kernel
theorem dX12_divisor_18 : decode cX12_divisor 18 = .ok (.lstore 8, 2) := by decide +kernel
theorem dX12_divisor_20 : decode cX12_divisor 20 = .ok (.lload 6, 2) := by decide +kernel
theorem dX12_divisor_22 : decode cX12_divisor 22 = .ok (.lstore 4, 2) := by decide +kernel
theorem dX12_divisor_24 : decode cX12_divisor 24 = .ok (.lload 8, 2) := by decide +kernel
theorem dX12_divisor_26 : decode cX12_divisor 26 = .ok (.lstore 6, 2) := by decide +kernel
theorem dX12_divisor_28 : decode cX12_divisor 28 = .ok (.goto (-22), 3) := by decide +kernel
theorem dX12_divisor_31 : decode cX12_divisor 31 = .ok (.lload 4, 2) := by decide +kernel
theorem dX12_divisor_33 : decode cX12_divisor 33 = .ok (.lreturn, 1) := by decide +kernel
theorem dX12_likely_0 : decode cX12_likely 0 = .ok (.iload_n 1, 1) := by decide +kernel
theorem dX12_likely_1 : decode cX12_likely 1 = .ok (.iconst 1, 1) := by decide +kernel
theorem dX12_likely_2 : decode cX12_likely 2 = .ok (.bipush 10, 2) := by decide +kernel
theorem dX12_likely_4 : decode cX12_likely 4 = .ok (.invokestatic 87, 3) := by decide +kernel
theorem dX12_likely_7 : decode cX12_likely 7 = .ok (.ifCond .eq 22, 3) := by decide +kernel
theorem dX12_likely_10 : decode cX12_likely 10 = .ok (.iload_n 2, 1) := by decide +kernel
theorem dX12_likely_11 : decode cX12_likely 11 = .ok (.iconst 0, 1) := by decide +kernel
theorem dX12_likely_12 : decode cX12_likely 12 = .ok (.bipush 10, 2) := by decide +kernel
theorem dX12_likely_14 : decode cX12_likely 14 = .ok (.invokestatic 87, 3) := by decide +kernel
theorem dX12_likely_17 : decode cX12_likely 17 = .ok (.ifCond .eq 12, 3) := by decide +kernel
theorem dX12_likely_20 : decode cX12_likely 20 = .ok (.aload_n 0, 1) := by decide +kernel
theorem dX12_likely_21 : decode cX12_likely 21 = .ok (.getfield 7, 3) := by decide +kernel
theorem dX12_likely_24 : decode cX12_likely 24 = .ok (.iconst 0, 1) := by decide +kernel
theorem dX12_likely_25 : decode cX12_likely 25 = .ok (.iaload, 1) := by decide +kernel
theorem dX12_likely_26 : decode cX12_likely 26 = .ok (.ifCond .ne 7, 3) := by decide +kernel
theorem dX12_likely_29 : decode cX12_likely 29 = .ok (.ldc2_w 500, 3) := by decide +kernel
theorem dX12_likely_32 : decode cX12_likely 32 = .ok (.lreturn, 1) := by decide +kernel
theorem dX12_likely_33 : decode cX12_likely 33 = .ok (.lconst 1, 1) := by decide +kernel
theorem dX12_likely_34 : decode cX12_likely 34 = .ok (.lstore 4, 2) := by decide +kernel
theorem dX12_likely_36 : decode cX12_likely 36 = .ok (.iconst 0, 1) := by decide +kernel
theorem dX12_likely_37 : decode cX12_likely 37 = .ok (.istore 6, 2) := by decide +kernel
theorem dX12_likely_39 : decode cX12_likely 39 = .ok (.iload 6, 2) := by decide +kernel
theorem dX12_likely_41 : decode cX12_likely 41 = .ok (.bipush 11, 2) := by decide +kernel
theorem dX12_likely_43 : decode cX12_likely 43 = .ok (.if_icmp .ge 26, 3) := by decide +kernel
theorem dX12_likely_46 : decode cX12_likely 46 = .ok (.aload_n 0, 1) := by decide +kernel
theorem dX12_likely_47 : decode cX12_likely 47 = .ok (.getfield 80, 3) := by decide +kernel
theorem dX12_likely_50 : decode cX12_likely 50 = .ok (.iload 6, 2) := by decide +kernel
theorem dX12_likely_52 : decode cX12_likely 52 = .ok (.iload 6, 2) := by decide +kernel
theorem dX12_likely_54 : decode cX12_likely 54 = .ok (.ifCond .ne 7, 3) := by decide +kernel
theorem dX12_likely_57 : decode cX12_likely 57 = .ok (.lconst 1, 1) := by decide +kernel
theorem dX12_likely_58 : decode cX12_likely 58 = .ok (.goto 4, 3) := by decide +kernel
theorem dX12_likely_61 : decode cX12_likely 61 = .ok (.lconst 0, 1) := by decide +kernel
theorem dX12_likely_62 : decode cX12_likely 62 = .ok (.lastore, 1) := by decide +kernel
theorem dX12_likely_63 : decode cX12_likely 63 = .ok (.iinc 6 1, 3) := by decide +kernel
theorem dX12_likely_66 : decode cX12_likely 66 = .ok (.goto (-27), 3) := by decide +kernel
theorem dX12_likely_69 : decode cX12_likely 69 = .ok (.iconst 0, 1) := by decide +kernel
theorem dX12_likely_70 : decode cX12_likely 70 = .ok (.istore 6, 2) := by decide +kernel
theorem dX12_likely_72 : decode cX12_likely 72 = .ok (.iload 6, 2) := by decide +kernel
theorem dX12_likely_74 : decode cX12_likely 74 = .ok (.iload_n 1, 1) := by decide +kernel
theorem dX12_likely_75 : decode cX12_likely 75 = .ok (.if_icmp .ge 79, 3) := by decide +kernel
theorem dX12_likely_78 : decode cX12_likely 78 = .ok (.bipush 10, 2) := by decide +kernel
theorem dX12_likely_80 : decode cX12_likely 80 = .ok (.istore 7, 2) := by decide +kernel
theorem dX12_likely_82 : decode cX12_likely 82 = .ok (.iload 7, 2) := by decide +kernel
theorem dX12_likely_84 : decode cX12_likely 84 = .ok (.ifCond .lt 52, 3) := by decide +kernel
theorem dX12_likely_87 : decode cX12_likely 87 = .ok (.aload_n 0, 1) := by decide +kernel
theorem dX12_likely_88 : decode cX12_likely 88 = .ok (.getfield 80, 3) := by decide +kernel
theorem dX12_likely_91 : decode cX12_likely 91 = .ok (.iload 7, 2) := by decide +kernel
theorem dX12_likely_93 : decode cX12_likely 93 = .ok (.aload_n 0, 1) := by decide +kernel
theorem dX12_likely_94 : decode cX12_likely 94 = .ok (.getfield 80, 3) := by decide +kernel
theorem dX12_likely_97 : decode cX12_likely 97 = .ok (.iload 7, 2) := by decide +kernel
theorem dX12_likely_99 : decode cX12_likely 99 = .ok (.laload, 1) := by decide +kernel
theorem dX12_likely_100 : decode cX12_likely 100 = .ok (.aload_n 0, 1) := by decide +kernel
theorem dX12_likely_101 : decode cX12_likely 101 = .ok (.getfield 7, 3) := by decide +kernel
theorem dX12_likely_104 : decode cX12_likely 104 = .ok (.iconst 0, 1) := by decide +kernel
theorem dX12_likely_105 : decode cX12_likely 105 = .ok (.iaload, 1) := by decide +kernel
theorem dX12_likely_106 : decode cX12_likely 106 = .ok (.iconst 1, 1) := by decide +kernel
theorem dX12_likely_107 : decode cX12_likely 107 = .ok (.isub, 1) := by decide +kernel
theorem dX12_likely_108 : decode cX12_likely 108 = .ok (.i2l, 1) := by decide +kernel
theorem dX12_likely_109 : decode cX12_likely 109 = .ok (.lmul, 1) := by decide +kernel
theorem dX12_likely_110 : decode cX12_likely 110 = .ok (.iload 7, 2) := by decide +kernel
theorem dX12_likely_112 : decode cX12_likely 112 = .ok (.ifCond .le 15, 3) := by decide +kernel
theorem dX12_likely_115 : decode cX12_likely 115 = .ok (.aload_n 0, 1) := by decide +kernel
theorem dX12_likely_116 : decode cX12_likely 116 = .ok (.getfield 80, 3) := by decide +kernel
theorem dX12_likely_119 : decode cX12_likely 119 = .ok (.iload 7, 2) := by decide +kernel
theorem dX12_likely_121 : decode cX12_likely 121 = .ok (.iconst 1, 1) := by decide +kernel
theorem dX12_likely_122 : decode cX12_likely 122 = .ok (.isub, 1) := by decide +kernel
theorem dX12_likely_123 : decode cX12_likely 123 = .ok (.laload, 1) := by decide +kernel
theorem dX12_likely_124 : decode cX12_likely 124 = .ok (.goto 4, 3) := by decide +kernel
theorem dX12_likely_127 : decode cX12_likely 127 = .ok (.lconst 0, 1) := by decide +kernel
theorem dX12_likely_128 : decode cX12_likely 128 = .ok (.ladd, 1) := by decide +kernel
theorem dX12_likely_129 : decode cX12_likely 129 = .ok (.lastore, 1) := by decide +kernel
theorem dX12_likely_130 : decode cX12_likely 130 = .ok (.iinc 7 (-1), 3) := by decide +kernel
theorem dX12_likely_133 : decode cX12_likely 133 = .ok (.goto (-51), 3) := by decide +kernel
theorem dX12_likely_136 : decode cX12_likely 136 = .ok (.lload 4, 2) := by decide +kernel
theorem dX12_likely_138 : decode cX12_likely 138 = .ok (.aload_n 0, 1) := by decide +kernel
theorem dX12_likely_139 : decode cX12_likely 139 = .ok (.getfield 7, 3) := by decide +kernel
theorem dX12_likely_142 : decode cX12_likely 142 = .ok (.iconst 0, 1) := by decide +kernel
theorem dX12_likely_143 : decode cX12_likely 143 = .ok (.iaload, 1) := by decide +kernel
theorem dX12_likely_144 : decode cX12_likely 144 = .ok (.i2l, 1) := by decide +kernel
theorem dX12_likely_145 : decode cX12_likely 145 = .ok (.lmul, 1) := by decide +kernel
theorem dX12_likely_146 : decode cX12_likely 146 = .ok (.lstore 4, 2) := by decide +kernel
theorem dX12_likely_148 : decode cX12_likely 148 = .ok (.iinc 6 1, 3) := by decide +kernel
theorem dX12_likely_151 : decode cX12_likely 151 = .ok (.goto (-79), 3) := by decide +kernel
theorem dX12_likely_154 : decode cX12_likely 154 = .ok (.iload_n 3, 1) := by decide +kernel
theorem dX12_likely_155 : decode cX12_likely 155 = .ok (.ifCond .eq 8, 3) := by decide +kernel
theorem dX12_likely_158 : decode cX12_likely 158 = .ok (.lload 4, 2) := by decide +kernel
theorem dX12_likely_160 : decode cX12_likely 160 = .ok (.goto 9, 3) := by decide +kernel
theorem dX12_likely_163 : decode cX12_likely 163 = .ok (.aload_n 0, 1) := by decide +kernel
theorem dX12_likely_164 : decode cX12_likely 164 = .ok (.getfield 80, 3) := by decide +kernel
theorem dX12_likely_167 : decode cX12_likely 167 = .ok (.iload_n 2, 1) := by decide +kernel
theorem dX12_likely_168 : decode cX12_likely 168 = .ok (.laload, 1) := by decide +kernel
theorem dX12_likely_169 : decode cX12_likely 169 = .ok (.aload_n 0, 1) := by decide +kernel
theorem dX12_likely_170 : decode cX12_likely 170 = .ok (.getfield 80, 3) := by decide +kernel
theorem dX12_likely_173 : decode cX12_likely 173 = .ok (.iload_n 2, 1) := by decide +kernel
theorem dX12_likely_174 : decode cX12_likely 174 = .ok (.laload, 1) := by decide +kernel
theorem dX12_likely_175 : decode cX12_likely 175 = .ok (.lload 4, 2) := by decide +kernel
theorem dX12_likely_177 : decode cX12_likely 177 = .ok (.invokestatic 502, 3) := by decide +kernel
theorem dX12_likely_180 : decode cX12_likely 180 = .ok (.ldiv, 1) := by decide +kernel
theorem dX12_likely_181 : decode cX12_likely 181 = .ok (.lreturn, 1) := by decide +kernel
theorem dX12_days_0 : decode cX12_days 0 = .ok (.aload_n 0, 1) := by decide +kernel
theorem dX12_days_1 : decode cX12_days 1 = .ok (.getfield 7, 3) := by decide +kernel
theorem dX12_days_4 : decode cX12_days 4 = .ok (.iconst 0, 1) := by decide +kernel
theorem dX12_days_5 : decode cX12_days 5 = .ok (.iaload, 1) := by decide +kernel
theorem dX12_days_6 : decode cX12_days 6 = .ok (.ifCond .ne 5, 3) := by decide +kernel
theorem dX12_days_9 : decode cX12_days 9 = .ok (.iconst (-1), 1) := by decide +kernel
theorem dX12_days_10 : decode cX12_days 10 = .ok (.ireturn, 1) := by decide +kernel
theorem dX12_days_11 : decode cX12_days 11 = .ok (.iconst 0, 1) := by decide +kernel
theorem dX12_days_12 : decode cX12_days 12 = .ok (.istore_n 2, 1) := by decide +kernel
theorem dX12_days_13 : decode cX12_days 13 = .ok (.iconst 1, 1) := by decide +kernel
theorem dX12_days_14 : decode cX12_days 14 = .ok (.istore_n 3, 1) := by decide +kernel
theorem dX12_days_15 : decode cX12_days 15 = .ok (.iload_n 3, 1) := by decide +kernel
theorem dX12_days_16 : decode cX12_days 16 = .ok (.aload_n 0, 1) := by decide +kernel
theorem dX12_days_17 : decode cX12_days 17 = .ok (.getfield 7, 3) := by decide +kernel
theorem dX12_days_20 : decode cX12_days 20 = .ok (.iconst 0, 1) := by decide +kernel
theorem dX12_days_21 : decode cX12_days 21 = .ok (.iaload, 1) := by decide +kernel
theorem dX12_days_22 : decode cX12_days 22 = .ok (.if_icmp .gt 23, 3) := by decide +kernel
theorem dX12_days_25 : decode cX12_days 25 = .ok (.iload_n 2, 1) := by decide +kernel
theorem dX12_days_26 : decode cX12_days 26 = .ok (.bipush 60, 2) := by decide +kernel
theorem dX12_days_28 : decode cX12_days 28 = .ok (.iload_n 3, 1) := by decide +kernel
theorem dX12_days_29 : decode cX12_days 29 = .ok (.idiv, 1) := by decide +kernel
theorem dX12_days_30 : decode cX12_days 30 = .ok (.aload_n 0, 1) := by decide +kernel
theorem dX12_days_31 : decode cX12_days 31 = .ok (.getfield 7, 3) := by decide +kernel
theorem dX12_days_34 : decode cX12_days 34 = .ok (.iconst 0, 1) := by decide +kernel
theorem dX12_days_35 : decode cX12_days 35 = .ok (.iaload, 1) := by decide +kernel
theorem dX12_days_36 : decode cX12_days 36 = .ok (.imul, 1) := by decide +kernel
theorem dX12_days_37 : decode cX12_days 37 = .ok (.iadd, 1) := by decide +kernel
theorem dX12_days_38 : decode cX12_days 38 = .ok (.istore_n 2, 1) := by decide +kernel
theorem dX12_days_39 : decode cX12_days 39 = .ok (.iinc 3 1, 3) := by decide +kernel
theorem dX12_days_42 : decode cX12_days 42 = .ok (.goto (-27), 3) := by decide +kernel
theorem dX12_days_45 : decode cX12_days 45 = .ok (.iload_n 1, 1) := by decide +kernel
theorem dX12_days_46 : decode cX12_days 46 = .ok (.ifCond .eq 8, 3) := by decide +kernel
theorem dX12_days_49 : decode cX12_days 49 = .ok (.bipush 60, 2) := by decide +kernel
theorem dX12_days_51 : decode cX12_days 51 = .ok (.goto 4, 3) := by decide +kernel
theorem dX12_days_54 : decode cX12_days 54 = .ok (.iload_n 2, 1) := by decide +kernel
theorem dX12_days_55 : decode cX12_days 55 = .ok (.iload_n 2, 1) := by decide +kernel
theorem dX12_days_56 : decode cX12_days 56 = .ok (.i2l, 1) := by decide +kernel
theorem dX12_days_57 : decode cX12_days 57 = .ok (.ldc2_w 505, 3) := by decide +kernel
theorem dX12_days_60 : decode cX12_days 60 = .ok (.invokestatic 502, 3) := by decide +kernel
theorem dX12_days_63 : decode cX12_days 63 = .ok (.l2i, 1) := by decide +kernel
theorem dX12_days_64 : decode cX12_days 64 = .ok (.idiv, 1) := by decide +kernel
theorem dX12_days_65 : decode cX12_days 65 = .ok (.ireturn, 1) := by decide +kernel
theorem dX12_said_0 : decode cX12_said 0 = .ok (.iload_n 1, 1) := by decide +kernel
theorem dX12_said_1 : decode cX12_said 1 = .ok (.iconst (-1), 1) := by decide +kernel
theorem dX12_said_2 : decode cX12_said 2 = .ok (.if_icmp .ne 12, 3) := by decide +kernel
theorem dX12_said_5 : decode cX12_said 5 = .ok (.aload_n 0, 1) := by decide +kernel
theorem dX12_said_6 : decode cX12_said 6 = .ok (.getfield 7, 3) := by decide +kernel
theorem dX12_said_9 : decode cX12_said 9 = .ok (.iconst 5, 1) := by decide +kernel
theorem dX12_said_10 : decode cX12_said 10 = .ok (.iconst 0, 1) := by decide +kernel
theorem dX12_said_11 : decode cX12_said 11 = .ok (.iastore, 1) := by decide +kernel
theorem dX12_said_12 : decode cX12_said 12 = .ok (.iconst 0, 1) := by decide +kernel
theorem dX12_said_13 : decode cX12_said 13 = .ok (.ireturn, 1) := by decide +kernel
theorem dX12_said_14 : decode cX12_said 14 = .ok (.aload_n 0, 1) := by decide +kernel
theorem dX12_said_15 : decode cX12_said 15 = .ok (.iload_n 1, 1) := by decide +kernel
theorem dX12_said_16 : decode cX12_said 16 = .ok (.invokevirtual 379, 3) := by decide +kernel
theorem dX12_said_19 : decode cX12_said 19 = .ok (.ifCond .eq 27, 3) := by decide +kernel
theorem dX12_said_22 : decode cX12_said 22 = .ok (.iload_n 2, 1) := by decide +kernel
theorem dX12_said_23 : decode cX12_said 23 = .ok (.sipush (-999), 3) := by decide +kernel
theorem dX12_said_26 : decode cX12_said 26 = .ok (.sipush 999, 3) := by decide +kernel
theorem dX12_said_29 : decode cX12_said 29 = .ok (.invokestatic 87, 3) := by decide +kernel
theorem dX12_said_32 : decode cX12_said 32 = .ok (.ifCond .eq 14, 3) := by decide +kernel
theorem dX12_said_35 : decode cX12_said 35 = .ok (.aload_n 0, 1) := by decide +kernel
theorem dX12_said_36 : decode cX12_said 36 = .ok (.getfield 7, 3) := by decide +kernel
theorem dX12_said_39 : decode cX12_said 39 = .ok (.iconst 5, 1) := by decide +kernel
theorem dX12_said_40 : decode cX12_said 40 = .ok (.iaload, 1) := by decide +kernel
theorem dX12_said_41 : decode cX12_said 41 = .ok (.bipush 8, 2) := by decide +kernel
theorem dX12_said_43 : decode cX12_said 43 = .ok (.if_icmp .ne 6, 3) := by decide +kernel
theorem dX12_said_46 : decode cX12_said 46 = .ok (.bipush (-2), 2) := by decide +kernel
theorem dX12_said_48 : decode cX12_said 48 = .ok (.ireturn, 1) := by decide +kernel
theorem dX12_said_49 : decode cX12_said 49 = .ok (.aload_n 0, 1) := by decide +kernel
theorem dX12_said_50 : decode cX12_said 50 = .ok (.getfield 7, 3) := by decide +kernel
theorem dX12_said_53 : decode cX12_said 53 = .ok (.sipush 177, 3) := by decide +kernel
theorem dX12_said_56 : decode cX12_said 56 = .ok (.iconst 2, 1) := by decide +kernel
theorem dX12_said_57 : decode cX12_said 57 = .ok (.aload_n 0, 1) := by decide +kernel
theorem dX12_said_58 : decode cX12_said 58 = .ok (.getfield 7, 3) := by decide +kernel
theorem dX12_said_61 : decode cX12_said 61 = .ok (.iconst 5, 1) := by decide +kernel
theorem dX12_said_62 : decode cX12_said 62 = .ok (.iaload, 1) := by decide +kernel
theorem dX12_said_63 : decode cX12_said 63 = .ok (.imul, 1) := by decide +kernel
theorem dX12_said_64 : decode cX12_said 64 = .ok (.iadd, 1) := by decide +kernel
theorem dX12_said_65 : decode cX12_said 65 = .ok (.iload_n 1, 1) := by decide +kernel
theorem dX12_said_66 : decode cX12_said 66 = .ok (.iastore, 1) := by decide +kernel
theorem dX12_said_67 : decode cX12_said 67 = .ok (.aload_n 0, 1) := by decide +kernel
theorem dX12_said_68 : decode cX12_said 68 = .ok (.getfield 7, 3) := by decide +kernel
theorem dX12_said_71 : decode cX12_said 71 = .ok (.sipush 177, 3) := by decide +kernel
theorem dX12_said_74 : decode cX12_said 74 = .ok (.iconst 2, 1) := by decide +kernel
theorem dX12_said_75 : decode cX12_said 75 = .ok (.aload_n 0, 1) := by decide +kernel
theorem dX12_said_76 : decode cX12_said 76 = .ok (.getfield 7, 3) := by decide +kernel
theorem dX12_said_79 : decode cX12_said 79 = .ok (.iconst 5, 1) := by decide +kernel
theorem dX12_said_80 : decode cX12_said 80 = .ok (.iaload, 1) := by decide +kernel
theorem dX12_said_81 : decode cX12_said 81 = .ok (.imul, 1) := by decide +kernel
theorem dX12_said_82 : decode cX12_said 82 = .ok (.iadd, 1) := by decide +kernel
theorem dX12_said_83 : decode cX12_said 83 = .ok (.iconst 1, 1) := by decide +kernel
theorem dX12_said_84 : decode cX12_said 84 = .ok (.iadd, 1) := by decide +kernel
theorem dX12_said_85 : decode cX12_said 85 = .ok (.iload_n 2, 1) := by decide +kernel
theorem dX12_said_86 : decode cX12_said 86 = .ok (.iastore, 1) := by decide +kernel
theorem dX12_said_87 : decode cX12_said 87 = .ok (.aload_n 0, 1) := by decide +kernel
theorem dX12_said_88 : decode cX12_said 88 = .ok (.getfield 7, 3) := by decide +kernel
theorem dX12_said_91 : decode cX12_said 91 = .ok (.iconst 5, 1) := by decide +kernel
theorem dX12_said_92 : decode cX12_said 92 = .ok (.dup2, 1) := by decide +kernel
theorem dX12_said_93 : decode cX12_said 93 = .ok (.iaload, 1) := by decide +kernel
theorem dX12_said_94 : decode cX12_said 94 = .ok (.iconst 1, 1) := by decide +kernel
theorem dX12_said_95 : decode cX12_said 95 = .ok (.iadd, 1) := by decide +kernel
theorem dX12_said_96 : decode cX12_said 96 = .ok (.iastore, 1) := by decide +kernel
theorem dX12_said_97 : decode cX12_said 97 = .ok (.aload_n 0, 1) := by decide +kernel
theorem dX12_said_98 : decode cX12_said 98 = .ok (.getfield 7, 3) := by decide +kernel
theorem dX12_said_101 : decode cX12_said 101 = .ok (.iconst 5, 1) := by decide +kernel
theorem dX12_said_102 : decode cX12_said 102 = .ok (.iaload, 1) := by decide +kernel
theorem dX12_said_103 : decode cX12_said 103 = .ok (.ireturn, 1) := by decide +kernel
theorem dX12_whose_0 : decode cX12_whose 0 = .ok (.iconst 0, 1) := by decide +kernel
theorem dX12_whose_1 : decode cX12_whose 1 = .ok (.istore_n 1, 1) := by decide +kernel
theorem dX12_whose_2 : decode cX12_whose 2 = .ok (.iconst 0, 1) := by decide +kernel
theorem dX12_whose_3 : decode cX12_whose 3 = .ok (.istore_n 2, 1) := by decide +kernel
theorem dX12_whose_4 : decode cX12_whose 4 = .ok (.iload_n 2, 1) := by decide +kernel
theorem dX12_whose_5 : decode cX12_whose 5 = .ok (.aload_n 0, 1) := by decide +kernel
theorem dX12_whose_6 : decode cX12_whose 6 = .ok (.getfield 7, 3) := by decide +kernel
theorem dX12_whose_9 : decode cX12_whose 9 = .ok (.iconst 1, 1) := by decide +kernel
theorem dX12_whose_10 : decode cX12_whose 10 = .ok (.iaload, 1) := by decide +kernel
theorem dX12_whose_11 : decode cX12_whose 11 = .ok (.if_icmp .ge 91, 3) := by decide +kernel
theorem dX12_whose_14 : decode cX12_whose 14 = .ok (.iconst 1, 1) := by decide +kernel
theorem dX12_whose_15 : decode cX12_whose 15 = .ok (.istore_n 3, 1) := by decide +kernel
theorem dX12_whose_16 : decode cX12_whose 16 = .ok (.iconst 0, 1) := by decide +kernel
theorem dX12_whose_17 : decode cX12_whose 17 = .ok (.istore 4, 2) := by decide +kernel
theorem dX12_whose_19 : decode cX12_whose 19 = .ok (.iload 4, 2) := by decide +kernel
theorem dX12_whose_21 : decode cX12_whose 21 = .ok (.aload_n 0, 1) := by decide +kernel
theorem dX12_whose_22 : decode cX12_whose 22 = .ok (.getfield 7, 3) := by decide +kernel
theorem dX12_whose_25 : decode cX12_whose 25 = .ok (.iconst 5, 1) := by decide +kernel
theorem dX12_whose_26 : decode cX12_whose 26 = .ok (.iaload, 1) := by decide +kernel
theorem dX12_whose_27 : decode cX12_whose 27 = .ok (.if_icmp .ge 55, 3) := by decide +kernel
theorem dX12_whose_30 : decode cX12_whose 30 = .ok (.iload_n 3, 1) := by decide +kernel
theorem dX12_whose_31 : decode cX12_whose 31 = .ok (.ifCond .eq 43, 3) := by decide +kernel
theorem dX12_whose_34 : decode cX12_whose 34 = .ok (.aload_n 0, 1) := by decide +kernel
theorem dX12_whose_35 : decode cX12_whose 35 = .ok (.iload_n 2, 1) := by decide +kernel
theorem dX12_whose_36 : decode cX12_whose 36 = .ok (.aload_n 0, 1) := by decide +kernel
theorem dX12_whose_37 : decode cX12_whose 37 = .ok (.getfield 7, 3) := by decide +kernel
theorem dX12_whose_40 : decode cX12_whose 40 = .ok (.sipush 177, 3) := by decide +kernel
theorem dX12_whose_43 : decode cX12_whose 43 = .ok (.iconst 2, 1) := by decide +kernel
theorem dX12_whose_44 : decode cX12_whose 44 = .ok (.iload 4, 2) := by decide +kernel
theorem dX12_whose_46 : decode cX12_whose 46 = .ok (.imul, 1) := by decide +kernel
theorem dX12_whose_47 : decode cX12_whose 47 = .ok (.iadd, 1) := by decide +kernel
theorem dX12_whose_48 : decode cX12_whose 48 = .ok (.iaload, 1) := by decide +kernel
theorem dX12_whose_49 : decode cX12_whose 49 = .ok (.invokevirtual 340, 3) := by decide +kernel
theorem dX12_whose_52 : decode cX12_whose 52 = .ok (.aload_n 0, 1) := by decide +kernel
theorem dX12_whose_53 : decode cX12_whose 53 = .ok (.getfield 7, 3) := by decide +kernel
theorem dX12_whose_56 : decode cX12_whose 56 = .ok (.sipush 177, 3) := by decide +kernel
theorem dX12_whose_59 : decode cX12_whose 59 = .ok (.iconst 2, 1) := by decide +kernel
theorem dX12_whose_60 : decode cX12_whose 60 = .ok (.iload 4, 2) := by decide +kernel
theorem dX12_whose_62 : decode cX12_whose 62 = .ok (.imul, 1) := by decide +kernel
theorem dX12_whose_63 : decode cX12_whose 63 = .ok (.iadd, 1) := by decide +kernel
theorem dX12_whose_64 : decode cX12_whose 64 = .ok (.iconst 1, 1) := by decide +kernel
theorem dX12_whose_65 : decode cX12_whose 65 = .ok (.iadd, 1) := by decide +kernel
theorem dX12_whose_66 : decode cX12_whose 66 = .ok (.iaload, 1) := by decide +kernel
theorem dX12_whose_67 : decode cX12_whose 67 = .ok (.if_icmp .ne 7, 3) := by decide +kernel
theorem dX12_whose_70 : decode cX12_whose 70 = .ok (.iconst 1, 1) := by decide +kernel
theorem dX12_whose_71 : decode cX12_whose 71 = .ok (.goto 4, 3) := by decide +kernel
theorem dX12_whose_74 : decode cX12_whose 74 = .ok (.iconst 0, 1) := by decide +kernel
theorem dX12_whose_75 : decode cX12_whose 75 = .ok (.istore_n 3, 1) := by decide +kernel
theorem dX12_whose_76 : decode cX12_whose 76 = .ok (.iinc 4 1, 3) := by decide +kernel
theorem dX12_whose_79 : decode cX12_whose 79 = .ok (.goto (-60), 3) := by decide +kernel
theorem dX12_whose_82 : decode cX12_whose 82 = .ok (.iload_n 1, 1) := by decide +kernel
theorem dX12_whose_83 : decode cX12_whose 83 = .ok (.iload_n 3, 1) := by decide +kernel
theorem dX12_whose_84 : decode cX12_whose 84 = .ok (.ifCond .eq 9, 3) := by decide +kernel
theorem dX12_whose_87 : decode cX12_whose 87 = .ok (.iconst 1, 1) := by decide +kernel
theorem dX12_whose_88 : decode cX12_whose 88 = .ok (.iload_n 2, 1) := by decide +kernel
theorem dX12_whose_89 : decode cX12_whose 89 = .ok (.ishl, 1) := by decide +kernel
theorem dX12_whose_90 : decode cX12_whose 90 = .ok (.goto 4, 3) := by decide +kernel
theorem dX12_whose_93 : decode cX12_whose 93 = .ok (.iconst 0, 1) := by decide +kernel
theorem dX12_whose_94 : decode cX12_whose 94 = .ok (.ior, 1) := by decide +kernel
theorem dX12_whose_95 : decode cX12_whose 95 = .ok (.istore_n 1, 1) := by decide +kernel
theorem dX12_whose_96 : decode cX12_whose 96 = .ok (.iinc 2 1, 3) := by decide +kernel
theorem dX12_whose_99 : decode cX12_whose 99 = .ok (.goto (-95), 3) := by decide +kernel
theorem dX12_whose_102 : decode cX12_whose 102 = .ok (.iload_n 1, 1) := by decide +kernel
theorem dX12_whose_103 : decode cX12_whose 103 = .ok (.ireturn, 1) := by decide +kernel
theorem dX12_image_0 : decode cX12_image 0 = .ok (.aload_n 0, 1) := by decide +kernel
theorem dX12_image_1 : decode cX12_image 1 = .ok (.getfield 7, 3) := by decide +kernel
theorem dX12_image_4 : decode cX12_image 4 = .ok (.aload_n 0, 1) := by decide +kernel
theorem dX12_image_5 : decode cX12_image 5 = .ok (.getfield 13, 3) := by decide +kernel
theorem dX12_image_8 : decode cX12_image 8 = .ok (.invokestatic 83, 3) := by decide +kernel
theorem dX12_image_11 : decode cX12_image 11 = .ok (.aload_n 0, 1) := by decide +kernel
theorem dX12_image_12 : decode cX12_image 12 = .ok (.getfield 7, 3) := by decide +kernel
theorem dX12_image_15 : decode cX12_image 15 = .ok (.bipush 6, 2) := by decide +kernel
theorem dX12_image_17 : decode cX12_image 17 = .ok (.iaload, 1) := by decide +kernel
theorem dX12_image_18 : decode cX12_image 18 = .ok (.ireturn, 1) := by decide +kernel
theorem dX12_back_0 : decode cX12_back 0 = .ok (.aload_n 0, 1) := by decide +kernel
theorem dX12_back_1 : decode cX12_back 1 = .ok (.getfield 13, 3) := by decide +kernel
theorem dX12_back_4 : decode cX12_back 4 = .ok (.aload_n 0, 1) := by decide +kernel
theorem dX12_back_5 : decode cX12_back 5 = .ok (.getfield 7, 3) := by decide +kernel
theorem dX12_back_8 : decode cX12_back 8 = .ok (.invokestatic 83, 3) := by decide +kernel
theorem dX12_back_11 : decode cX12_back 11 = .ok (.aload_n 0, 1) := by decide +kernel
theorem dX12_back_12 : decode cX12_back 12 = .ok (.getfield 7, 3) := by decide +kernel
theorem dX12_back_15 : decode cX12_back 15 = .ok (.bipush 6, 2) := by decide +kernel
theorem dX12_back_17 : decode cX12_back 17 = .ok (.iaload, 1) := by decide +kernel
theorem dX12_back_18 : decode cX12_back 18 = .ok (.ireturn, 1) := by decide +kernel
theorem dX12_about_0 : decode cX12_about 0 = .ok (.iload_n 1, 1) := by decide +kernel
theorem dX12_about_1 : decode cX12_about 1 = .ok (.iconst 0, 1) := by decide +kernel
theorem dX12_about_2 : decode cX12_about 2 = .ok (.iconst 5, 1) := by decide +kernel
theorem dX12_about_3 : decode cX12_about 3 = .ok (.invokestatic 87, 3) := by decide +kernel
theorem dX12_about_6 : decode cX12_about 6 = .ok (.ifCond .eq 12, 3) := by decide +kernel
theorem dX12_about_9 : decode cX12_about 9 = .ok (.aload_n 0, 1) := by decide +kernel
theorem dX12_about_10 : decode cX12_about 10 = .ok (.getfield 7, 3) := by decide +kernel
theorem dX12_about_13 : decode cX12_about 13 = .ok (.iload_n 1, 1) := by decide +kernel
theorem dX12_about_14 : decode cX12_about 14 = .ok (.iaload, 1) := by decide +kernel
theorem dX12_about_15 : decode cX12_about 15 = .ok (.goto 18, 3) := by decide +kernel
theorem dX12_about_18 : decode cX12_about 18 = .ok (.iload_n 1, 1) := by decide +kernel
theorem dX12_about_19 : decode cX12_about 19 = .ok (.bipush 6, 2) := by decide +kernel
theorem dX12_about_21 : decode cX12_about 21 = .ok (.if_icmp .ne 10, 3) := by decide +kernel
theorem dX12_about_24 : decode cX12_about 24 = .ok (.aload_n 0, 1) := by decide +kernel
theorem dX12_about_25 : decode cX12_about 25 = .ok (.getfield 120, 3) := by decide +kernel
theorem dX12_about_28 : decode cX12_about 28 = .ok (.goto 5, 3) := by decide +kernel
theorem dX12_about_31 : decode cX12_about 31 = .ok (.bipush (-2), 2) := by decide +kernel
theorem dX12_about_33 : decode cX12_about 33 = .ok (.ireturn, 1) := by decide +kernel
theorem dJ6_bitCount_0f7a4_0 : decode cJ6_bitCount_0f7a4 0 = .ok (.iload_n 0, 1) := by decide +kernel
theorem dJ6_bitCount_0f7a4_1 : decode cJ6_bitCount_0f7a4 1 = .ok (.iload_n 0, 1) := by decide +kernel
theorem dJ6_bitCount_0f7a4_2 : decode cJ6_bitCount_0f7a4 2 = .ok (.iconst 1, 1) := by decide +kernel
theorem dJ6_bitCount_0f7a4_3 : decode cJ6_bitCount_0f7a4 3 = .ok (.iushr, 1) := by decide +kernel
theorem dJ6_bitCount_0f7a4_4 : decode cJ6_bitCount_0f7a4 4 = .ok (.ldc_w 265, 3) := by decide +kernel
theorem dJ6_bitCount_0f7a4_7 : decode cJ6_bitCount_0f7a4 7 = .ok (.iand, 1) := by decide +kernel
theorem dJ6_bitCount_0f7a4_8 : decode cJ6_bitCount_0f7a4 8 = .ok (.isub, 1) := by decide +kernel
theorem dJ6_bitCount_0f7a4_9 : decode cJ6_bitCount_0f7a4 9 = .ok (.istore_n 0, 1) := by decide +kernel
theorem dJ6_bitCount_0f7a4_10 : decode cJ6_bitCount_0f7a4 10 = .ok (.iload_n 0, 1) := by decide +kernel
theorem dJ6_bitCount_0f7a4_11 : decode cJ6_bitCount_0f7a4 11 = .ok (.ldc_w 266, 3) := by decide +kernel
theorem dJ6_bitCount_0f7a4_14 : decode cJ6_bitCount_0f7a4 14 = .ok (.iand, 1) := by decide +kernel
theorem dJ6_bitCount_0f7a4_15 : decode cJ6_bitCount_0f7a4 15 = .ok (.iload_n 0, 1) := by decide +kernel
theorem dJ6_bitCount_0f7a4_16 : decode cJ6_bitCount_0f7a4 16 = .ok (.iconst 2, 1) := by decide +kernel
theorem dJ6_bitCount_0f7a4_17 : decode cJ6_bitCount_0f7a4 17 = .ok (.iushr, 1) := by decide +kernel
theorem dJ6_bitCount_0f7a4_18 : decode cJ6_bitCount_0f7a4 18 = .ok (.ldc_w 266, 3) := by decide +kernel
theorem dJ6_bitCount_0f7a4_21 : decode cJ6_bitCount_0f7a4 21 = .ok (.iand, 1) := by decide +kernel
theorem dJ6_bitCount_0f7a4_22 : decode cJ6_bitCount_0f7a4 22 = .ok (.iadd, 1) := by decide +kernel
theorem dJ6_bitCount_0f7a4_23 : decode cJ6_bitCount_0f7a4 23 = .ok (.istore_n 0, 1) := by decide +kernel
theorem dJ6_bitCount_0f7a4_24 : decode cJ6_bitCount_0f7a4 24 = .ok (.iload_n 0, 1) := by decide +kernel
theorem dJ6_bitCount_0f7a4_25 : decode cJ6_bitCount_0f7a4 25 = .ok (.iload_n 0, 1) := by decide +kernel
theorem dJ6_bitCount_0f7a4_26 : decode cJ6_bitCount_0f7a4 26 = .ok (.iconst 4, 1) := by decide +kernel
theorem dJ6_bitCount_0f7a4_27 : decode cJ6_bitCount_0f7a4 27 = .ok (.iushr, 1) := by decide +kernel
theorem dJ6_bitCount_0f7a4_28 : decode cJ6_bitCount_0f7a4 28 = .ok (.iadd, 1) := by decide +kernel
theorem dJ6_bitCount_0f7a4_29 : decode cJ6_bitCount_0f7a4 29 = .ok (.ldc_w 267, 3) := by decide +kernel
theorem dJ6_bitCount_0f7a4_32 : decode cJ6_bitCount_0f7a4 32 = .ok (.iand, 1) := by decide +kernel
theorem dJ6_bitCount_0f7a4_33 : decode cJ6_bitCount_0f7a4 33 = .ok (.istore_n 0, 1) := by decide +kernel
theorem dJ6_bitCount_0f7a4_34 : decode cJ6_bitCount_0f7a4 34 = .ok (.iload_n 0, 1) := by decide +kernel
theorem dJ6_bitCount_0f7a4_35 : decode cJ6_bitCount_0f7a4 35 = .ok (.iload_n 0, 1) := by decide +kernel
theorem dJ6_bitCount_0f7a4_36 : decode cJ6_bitCount_0f7a4 36 = .ok (.bipush 8, 2) := by decide +kernel
theorem dJ6_bitCount_0f7a4_38 : decode cJ6_bitCount_0f7a4 38 = .ok (.iushr, 1) := by decide +kernel
theorem dJ6_bitCount_0f7a4_39 : decode cJ6_bitCount_0f7a4 39 = .ok (.iadd, 1) := by decide +kernel
theorem dJ6_bitCount_0f7a4_40 : decode cJ6_bitCount_0f7a4 40 = .ok (.istore_n 0, 1) := by decide +kernel
theorem dJ6_bitCount_0f7a4_41 : decode cJ6_bitCount_0f7a4 41 = .ok (.iload_n 0, 1) := by decide +kernel
theorem dJ6_bitCount_0f7a4_42 : decode cJ6_bitCount_0f7a4 42 = .ok (.iload_n 0, 1) := by decide +kernel
theorem dJ6_bitCount_0f7a4_43 : decode cJ6_bitCount_0f7a4 43 = .ok (.bipush 16, 2) := by decide +kernel
theorem dJ6_bitCount_0f7a4_45 : decode cJ6_bitCount_0f7a4 45 = .ok (.iushr, 1) := by decide +kernel
theorem dJ6_bitCount_0f7a4_46 : decode cJ6_bitCount_0f7a4 46 = .ok (.iadd, 1) := by decide +kernel
theorem dJ6_bitCount_0f7a4_47 : decode cJ6_bitCount_0f7a4 47 = .ok (.istore_n 0, 1) := by decide +kernel
theorem dJ6_bitCount_0f7a4_48 : decode cJ6_bitCount_0f7a4 48 = .ok (.iload_n 0, 1) := by decide +kernel
theorem dJ6_bitCount_0f7a4_49 : decode cJ6_bitCount_0f7a4 49 = .ok (.bipush 63, 2) := by decide +kernel
theorem dJ6_bitCount_0f7a4_51 : decode cJ6_bitCount_0f7a4 51 = .ok (.iand, 1) := by decide +kernel
theorem dJ6_bitCount_0f7a4_52 : decode cJ6_bitCount_0f7a4 52 = .ok (.ireturn, 1) := by decide +kernel
theorem dJ9_max_7cf53_0 : decode cJ9_max_7cf53 0 = .ok (.iload_n 0, 1) := by decide +kernel
theorem dJ9_max_7cf53_1 : decode cJ9_max_7cf53 1 = .ok (.iload_n 1, 1) := by decide +kernel
theorem dJ9_max_7cf53_2 : decode cJ9_max_7cf53 2 = .ok (.if_icmp .lt 7, 3) := by decide +kernel
theorem dJ9_max_7cf53_5 : decode cJ9_max_7cf53 5 = .ok (.iload_n 0, 1) := by decide +kernel
theorem dJ9_max_7cf53_6 : decode cJ9_max_7cf53 6 = .ok (.goto 4, 3) := by decide +kernel
theorem dJ9_max_7cf53_9 : decode cJ9_max_7cf53 9 = .ok (.iload_n 1, 1) := by decide +kernel
theorem dJ9_max_7cf53_10 : decode cJ9_max_7cf53 10 = .ok (.ireturn, 1) := by decide +kernel
theorem dJ9_max_f86c9_0 : decode cJ9_max_f86c9 0 = .ok (.lload_n 0, 1) := by decide +kernel
theorem dJ9_max_f86c9_1 : decode cJ9_max_f86c9 1 = .ok (.lload_n 2, 1) := by decide +kernel
theorem dJ9_max_f86c9_2 : decode cJ9_max_f86c9 2 = .ok (.lcmp, 1) := by decide +kernel
theorem dJ9_max_f86c9_3 : decode cJ9_max_f86c9 3 = .ok (.ifCond .lt 7, 3) := by decide +kernel
theorem dJ9_max_f86c9_6 : decode cJ9_max_f86c9 6 = .ok (.lload_n 0, 1) := by decide +kernel
theorem dJ9_max_f86c9_7 : decode cJ9_max_f86c9 7 = .ok (.goto 4, 3) := by decide +kernel
theorem dJ9_max_f86c9_10 : decode cJ9_max_f86c9 10 = .ok (.lload_n 2, 1) := by decide +kernel
theorem dJ9_max_f86c9_11 : decode cJ9_max_f86c9 11 = .ok (.lreturn, 1) := by decide +kernel
theorem dJ9_min_7cf53_0 : decode cJ9_min_7cf53 0 = .ok (.iload_n 0, 1) := by decide +kernel
theorem dJ9_min_7cf53_1 : decode cJ9_min_7cf53 1 = .ok (.iload_n 1, 1) := by decide +kernel
theorem dJ9_min_7cf53_2 : decode cJ9_min_7cf53 2 = .ok (.if_icmp .gt 7, 3) := by decide +kernel
theorem dJ9_min_7cf53_5 : decode cJ9_min_7cf53 5 = .ok (.iload_n 0, 1) := by decide +kernel
theorem dJ9_min_7cf53_6 : decode cJ9_min_7cf53 6 = .ok (.goto 4, 3) := by decide +kernel
theorem dJ9_min_7cf53_9 : decode cJ9_min_7cf53 9 = .ok (.iload_n 1, 1) := by decide +kernel
theorem dJ9_min_7cf53_10 : decode cJ9_min_7cf53 10 = .ok (.ireturn, 1) := by decide +kernel
theorem dJ9_min_f86c9_0 : decode cJ9_min_f86c9 0 = .ok (.lload_n 0, 1) := by decide +kernel
theorem dJ9_min_f86c9_1 : decode cJ9_min_f86c9 1 = .ok (.lload_n 2, 1) := by decide +kernel
theorem dJ9_min_f86c9_2 : decode cJ9_min_f86c9 2 = .ok (.lcmp, 1) := by decide +kernel
theorem dJ9_min_f86c9_3 : decode cJ9_min_f86c9 3 = .ok (.ifCond .gt 7, 3) := by decide +kernel
theorem dJ9_min_f86c9_6 : decode cJ9_min_f86c9 6 = .ok (.lload_n 0, 1) := by decide +kernel
theorem dJ9_min_f86c9_7 : decode cJ9_min_f86c9 7 = .ok (.goto 4, 3) := by decide +kernel
theorem dJ9_min_f86c9_10 : decode cJ9_min_f86c9 10 = .ok (.lload_n 2, 1) := by decide +kernel
theorem dJ9_min_f86c9_11 : decode cJ9_min_f86c9 11 = .ok (.lreturn, 1) := by decide +kernel
theorem dJ0_length_8abf5_0 : decode cJ0_length_8abf5 0 = .ok (.aload_n 0, 1) := by decide +kernel
theorem dJ0_length_8abf5_1 : decode cJ0_length_8abf5 1 = .ok (.getfield 9, 3) := by decide +kernel
theorem dJ0_length_8abf5_4 : decode cJ0_length_8abf5 4 = .ok (.arraylength, 1) := by decide +kernel
theorem dJ0_length_8abf5_5 : decode cJ0_length_8abf5 5 = .ok (.aload_n 0, 1) := by decide +kernel
theorem dJ0_length_8abf5_6 : decode cJ0_length_8abf5 6 = .ok (.invokevirtual 335, 3) := by decide +kernel
theorem dJ0_length_8abf5_9 : decode cJ0_length_8abf5 9 = .ok (.ishr, 1) := by decide +kernel
theorem dJ0_length_8abf5_10 : decode cJ0_length_8abf5 10 = .ok (.ireturn, 1) := by decide +kernel
theorem dJ0_charAt_5068e_0 : decode cJ0_charAt_5068e 0 = .ok (.aload_n 0, 1) := by decide +kernel
theorem dJ0_charAt_5068e_1 : decode cJ0_charAt_5068e 1 = .ok (.invokevirtual 492, 3) := by decide +kernel
theorem dJ0_charAt_5068e_4 : decode cJ0_charAt_5068e 4 = .ok (.ifCond .eq 12, 3) := by decide +kernel
theorem dJ0_charAt_5068e_7 : decode cJ0_charAt_5068e 7 = .ok (.aload_n 0, 1) := by decide +kernel
theorem dJ0_charAt_5068e_8 : decode cJ0_charAt_5068e 8 = .ok (.getfield 9, 3) := by decide +kernel
theorem dJ0_charAt_5068e_11 : decode cJ0_charAt_5068e 11 = .ok (.iload_n 1, 1) := by decide +kernel
theorem dJ0_charAt_5068e_12 : decode cJ0_charAt_5068e 12 = .ok (.invokestatic 495, 3) := by decide +kernel
theorem dJ0_charAt_5068e_15 : decode cJ0_charAt_5068e 15 = .ok (.ireturn, 1) := by decide +kernel
theorem dJ0_charAt_5068e_16 : decode cJ0_charAt_5068e 16 = .ok (.aload_n 0, 1) := by decide +kernel
theorem dJ0_charAt_5068e_17 : decode cJ0_charAt_5068e 17 = .ok (.getfield 9, 3) := by decide +kernel
theorem dJ0_charAt_5068e_20 : decode cJ0_charAt_5068e 20 = .ok (.iload_n 1, 1) := by decide +kernel
theorem dJ0_charAt_5068e_21 : decode cJ0_charAt_5068e 21 = .ok (.invokestatic 498, 3) := by decide +kernel
theorem dJ0_charAt_5068e_24 : decode cJ0_charAt_5068e 24 = .ok (.ireturn, 1) := by decide +kernel
theorem dJ0_coder_7d493_0 : decode cJ0_coder_7d493 0 = .ok (.getstatic 38, 3) := by decide +kernel
theorem dJ0_coder_7d493_3 : decode cJ0_coder_7d493 3 = .ok (.ifCond .eq 10, 3) := by decide +kernel
theorem dJ0_coder_7d493_6 : decode cJ0_coder_7d493 6 = .ok (.aload_n 0, 1) := by decide +kernel
theorem dJ0_coder_7d493_7 : decode cJ0_coder_7d493 7 = .ok (.getfield 15, 3) := by decide +kernel
theorem dJ0_coder_7d493_10 : decode cJ0_coder_7d493 10 = .ok (.goto 4, 3) := by decide +kernel
theorem dJ0_coder_7d493_13 : decode cJ0_coder_7d493 13 = .ok (.iconst 1, 1) := by decide +kernel
theorem dJ0_coder_7d493_14 : decode cJ0_coder_7d493 14 = .ok (.ireturn, 1) := by decide +kernel
theorem dJ0_isLatin1_aae02_0 : decode cJ0_isLatin1_aae02 0 = .ok (.getstatic 38, 3) := by decide +kernel
theorem dJ0_isLatin1_aae02_3 : decode cJ0_isLatin1_aae02 3 = .ok (.ifCond .eq 14, 3) := by decide +kernel
theorem dJ0_isLatin1_aae02_6 : decode cJ0_isLatin1_aae02 6 = .ok (.aload_n 0, 1) := by decide +kernel
theorem dJ0_isLatin1_aae02_7 : decode cJ0_isLatin1_aae02 7 = .ok (.getfield 15, 3) := by decide +kernel
theorem dJ0_isLatin1_aae02_10 : decode cJ0_isLatin1_aae02 10 = .ok (.ifCond .ne 7, 3) := by decide +kernel
theorem dJ0_isLatin1_aae02_13 : decode cJ0_isLatin1_aae02 13 = .ok (.iconst 1, 1) := by decide +kernel
theorem dJ0_isLatin1_aae02_14 : decode cJ0_isLatin1_aae02 14 = .ok (.goto 4, 3) := by decide +kernel
theorem dJ0_isLatin1_aae02_17 : decode cJ0_isLatin1_aae02 17 = .ok (.iconst 0, 1) := by decide +kernel
theorem dJ0_isLatin1_aae02_18 : decode cJ0_isLatin1_aae02 18 = .ok (.ireturn, 1) := by decide +kernel
theorem dJ0_checkIndex_df160_0 : decode cJ0_checkIndex_df160 0 = .ok (.iload_n 0, 1) := by decide +kernel
theorem dJ0_checkIndex_df160_1 : decode cJ0_checkIndex_df160 1 = .ok (.iload_n 1, 1) := by decide +kernel
theorem dJ0_checkIndex_df160_2 : decode cJ0_checkIndex_df160 2 = .ok (.getstatic 1053, 3) := by decide +kernel
theorem dJ0_checkIndex_df160_5 : decode cJ0_checkIndex_df160 5 = .ok (.invokestatic 1059, 3) := by decide +kernel
theorem dJ0_checkIndex_df160_8 : decode cJ0_checkIndex_df160 8 = .ok (.pop, 1) := by decide +kernel
theorem dJ0_checkIndex_df160_9 : decode cJ0_checkIndex_df160 9 = .ok (.return_, 1) := by decide +kernel
theorem dJ1_charAt_3b067_0 : decode cJ1_charAt_3b067 0 = .ok (.iload_n 1, 1) := by decide +kernel
theorem dJ1_charAt_3b067_1 : decode cJ1_charAt_3b067 1 = .ok (.aload_n 0, 1) := by decide +kernel
theorem dJ1_charAt_3b067_2 : decode cJ1_charAt_3b067 2 = .ok (.arraylength, 1) := by decide +kernel
theorem dJ1_charAt_3b067_3 : decode cJ1_charAt_3b067 3 = .ok (.invokestatic 9, 3) := by decide +kernel
theorem dJ1_charAt_3b067_6 : decode cJ1_charAt_3b067 6 = .ok (.aload_n 0, 1) := by decide +kernel
theorem dJ1_charAt_3b067_7 : decode cJ1_charAt_3b067 7 = .ok (.iload_n 1, 1) := by decide +kernel
theorem dJ1_charAt_3b067_8 : decode cJ1_charAt_3b067 8 = .ok (.baload, 1) := by decide +kernel
theorem dJ1_charAt_3b067_9 : decode cJ1_charAt_3b067 9 = .ok (.sipush 255, 3) := by decide +kernel
theorem dJ1_charAt_3b067_12 : decode cJ1_charAt_3b067 12 = .ok (.iand, 1) := by decide +kernel
theorem dJ1_charAt_3b067_13 : decode cJ1_charAt_3b067 13 = .ok (.i2c, 1) := by decide +kernel
theorem dJ1_charAt_3b067_14 : decode cJ1_charAt_3b067 14 = .ok (.ireturn, 1) := by decide +kernel
theorem dJ2_getChar_3b067_0 : decode cJ2_getChar_3b067 0 = .ok (.getstatic 44, 3) := by decide +kernel
theorem dJ2_getChar_3b067_3 : decode cJ2_getChar_3b067 3 = .ok (.ifCond .ne 25, 3) := by decide +kernel
theorem dJ2_getChar_3b067_6 : decode cJ2_getChar_3b067 6 = .ok (.iload_n 1, 1) := by decide +kernel
theorem dJ2_getChar_3b067_7 : decode cJ2_getChar_3b067 7 = .ok (.ifCond .lt 11, 3) := by decide +kernel
theorem dJ2_getChar_3b067_10 : decode cJ2_getChar_3b067 10 = .ok (.iload_n 1, 1) := by decide +kernel
theorem dJ2_getChar_3b067_11 : decode cJ2_getChar_3b067 11 = .ok (.aload_n 0, 1) := by decide +kernel
theorem dJ2_getChar_3b067_12 : decode cJ2_getChar_3b067 12 = .ok (.invokestatic 48, 3) := by decide +kernel
theorem dJ2_getChar_3b067_15 : decode cJ2_getChar_3b067 15 = .ok (.if_icmp .lt 13, 3) := by decide +kernel
theorem dJ2_getChar_3b067_18 : decode cJ2_getChar_3b067 18 = .ok (.new 52, 3) := by decide +kernel
theorem dJ2_getChar_3b067_21 : decode cJ2_getChar_3b067 21 = .ok (.dup, 1) := by decide +kernel
theorem dJ2_getChar_3b067_22 : decode cJ2_getChar_3b067 22 = .ok (.ldc 54, 2) := by decide +kernel
theorem dJ2_getChar_3b067_24 : decode cJ2_getChar_3b067 24 = .ok (.invokespecial 56, 3) := by decide +kernel
theorem dJ2_getChar_3b067_27 : decode cJ2_getChar_3b067 27 = .ok (.athrow, 1) := by decide +kernel
theorem dJ2_getChar_3b067_28 : decode cJ2_getChar_3b067 28 = .ok (.iload_n 1, 1) := by decide +kernel
theorem dJ2_getChar_3b067_29 : decode cJ2_getChar_3b067 29 = .ok (.iconst 1, 1) := by decide +kernel
theorem dJ2_getChar_3b067_30 : decode cJ2_getChar_3b067 30 = .ok (.ishl, 1) := by decide +kernel
theorem dJ2_getChar_3b067_31 : decode cJ2_getChar_3b067 31 = .ok (.istore_n 1, 1) := by decide +kernel
theorem dJ2_getChar_3b067_32 : decode cJ2_getChar_3b067 32 = .ok (.aload_n 0, 1) := by decide +kernel
theorem dJ2_getChar_3b067_33 : decode cJ2_getChar_3b067 33 = .ok (.iload_n 1, 1) := by decide +kernel
theorem dJ2_getChar_3b067_34 : decode cJ2_getChar_3b067 34 = .ok (.iinc 1 1, 3) := by decide +kernel
theorem dJ2_getChar_3b067_37 : decode cJ2_getChar_3b067 37 = .ok (.baload, 1) := by decide +kernel
theorem dJ2_getChar_3b067_38 : decode cJ2_getChar_3b067 38 = .ok (.sipush 255, 3) := by decide +kernel
theorem dJ2_getChar_3b067_41 : decode cJ2_getChar_3b067 41 = .ok (.iand, 1) := by decide +kernel
theorem dJ2_getChar_3b067_42 : decode cJ2_getChar_3b067 42 = .ok (.getstatic 59, 3) := by decide +kernel
theorem dJ2_getChar_3b067_45 : decode cJ2_getChar_3b067 45 = .ok (.ishl, 1) := by decide +kernel
theorem dJ2_getChar_3b067_46 : decode cJ2_getChar_3b067 46 = .ok (.aload_n 0, 1) := by decide +kernel
theorem dJ2_getChar_3b067_47 : decode cJ2_getChar_3b067 47 = .ok (.iload_n 1, 1) := by decide +kernel
theorem dJ2_getChar_3b067_48 : decode cJ2_getChar_3b067 48 = .ok (.baload, 1) := by decide +kernel
theorem dJ2_getChar_3b067_49 : decode cJ2_getChar_3b067 49 = .ok (.sipush 255, 3) := by decide +kernel
theorem dJ2_getChar_3b067_52 : decode cJ2_getChar_3b067 52 = .ok (.iand, 1) := by decide +kernel
theorem dJ2_getChar_3b067_53 : decode cJ2_getChar_3b067 53 = .ok (.getstatic 63, 3) := by decide +kernel
theorem dJ2_getChar_3b067_56 : decode cJ2_getChar_3b067 56 = .ok (.ishl, 1) := by decide +kernel
theorem dJ2_getChar_3b067_57 : decode cJ2_getChar_3b067 57 = .ok (.ior, 1) := by decide +kernel
theorem dJ2_getChar_3b067_58 : decode cJ2_getChar_3b067 58 = .ok (.i2c, 1) := by decide +kernel
theorem dJ2_getChar_3b067_59 : decode cJ2_getChar_3b067 59 = .ok (.ireturn, 1) := by decide +kernel
theorem dJ2_length_9d52b_0 : decode cJ2_length_9d52b 0 = .ok (.aload_n 0, 1) := by decide +kernel
theorem dJ2_length_9d52b_1 : decode cJ2_length_9d52b 1 = .ok (.arraylength, 1) := by decide +kernel
theorem dJ2_length_9d52b_2 : decode cJ2_length_9d52b 2 = .ok (.iconst 1, 1) := by decide +kernel
theorem dJ2_length_9d52b_3 : decode cJ2_length_9d52b 3 = .ok (.ishr, 1) := by decide +kernel
theorem dJ2_length_9d52b_4 : decode cJ2_length_9d52b 4 = .ok (.ireturn, 1) := by decide +kernel
theorem dJ2_charAt_3b067_0 : decode cJ2_charAt_3b067 0 = .ok (.iload_n 1, 1) := by decide +kernel
theorem dJ2_charAt_3b067_1 : decode cJ2_charAt_3b067 1 = .ok (.aload_n 0, 1) := by decide +kernel
theorem dJ2_charAt_3b067_2 : decode cJ2_charAt_3b067 2 = .ok (.invokestatic 67, 3) := by decide +kernel
theorem dJ2_charAt_3b067_5 : decode cJ2_charAt_3b067 5 = .ok (.aload_n 0, 1) := by decide +kernel
theorem dJ2_charAt_3b067_6 : decode cJ2_charAt_3b067 6 = .ok (.iload_n 1, 1) := by decide +kernel
theorem dJ2_charAt_3b067_7 : decode cJ2_charAt_3b067 7 = .ok (.invokestatic 71, 3) := by decide +kernel
theorem dJ2_charAt_3b067_10 : decode cJ2_charAt_3b067 10 = .ok (.ireturn, 1) := by decide +kernel
theorem dJ2_checkIndex_2214a_0 : decode cJ2_checkIndex_2214a 0 = .ok (.iload_n 0, 1) := by decide +kernel
theorem dJ2_checkIndex_2214a_1 : decode cJ2_checkIndex_2214a 1 = .ok (.aload_n 1, 1) := by decide +kernel
theorem dJ2_checkIndex_2214a_2 : decode cJ2_checkIndex_2214a 2 = .ok (.invokestatic 48, 3) := by decide +kernel
theorem dJ2_checkIndex_2214a_5 : decode cJ2_checkIndex_2214a 5 = .ok (.invokestatic 414, 3) := by decide +kernel
theorem dJ2_checkIndex_2214a_8 : decode cJ2_checkIndex_2214a 8 = .ok (.return_, 1) := by decide +kernel
theorem dJ3_checkIndex_8e157_0 : decode cJ3_checkIndex_8e157 0 = .ok (.iload_n 0, 1) := by decide +kernel
theorem dJ3_checkIndex_8e157_1 : decode cJ3_checkIndex_8e157 1 = .ok (.ifCond .lt 8, 3) := by decide +kernel
theorem dJ3_checkIndex_8e157_4 : decode cJ3_checkIndex_8e157 4 = .ok (.iload_n 0, 1) := by decide +kernel
theorem dJ3_checkIndex_8e157_5 : decode cJ3_checkIndex_8e157 5 = .ok (.iload_n 1, 1) := by decide +kernel
theorem dJ3_checkIndex_8e157_6 : decode cJ3_checkIndex_8e157 6 = .ok (.if_icmp .lt 10, 3) := by decide +kernel
theorem dJ3_checkIndex_8e157_9 : decode cJ3_checkIndex_8e157 9 = .ok (.aload_n 2, 1) := by decide +kernel
theorem dJ3_checkIndex_8e157_10 : decode cJ3_checkIndex_8e157 10 = .ok (.iload_n 0, 1) := by decide +kernel
theorem dJ3_checkIndex_8e157_11 : decode cJ3_checkIndex_8e157 11 = .ok (.iload_n 1, 1) := by decide +kernel
theorem dJ3_checkIndex_8e157_12 : decode cJ3_checkIndex_8e157 12 = .ok (.invokestatic 95, 3) := by decide +kernel
theorem dJ3_checkIndex_8e157_15 : decode cJ3_checkIndex_8e157 15 = .ok (.athrow, 1) := by decide +kernel
theorem dJ3_checkIndex_8e157_16 : decode cJ3_checkIndex_8e157 16 = .ok (.iload_n 0, 1) := by decide +kernel
theorem dJ3_checkIndex_8e157_17 : decode cJ3_checkIndex_8e157 17 = .ok (.ireturn, 1) := by decide +kernel
theorem dL_law_0 : decode cL_law 0 = .ok (.new 7, 3) := by decide +kernel
theorem dL_law_3 : decode cL_law 3 = .ok (.dup, 1) := by decide +kernel
theorem dL_law_4 : decode cL_law 4 = .ok (.invokespecial 9, 3) := by decide +kernel
theorem dL_law_7 : decode cL_law 7 = .ok (.astore_n 1, 1) := by decide +kernel
theorem dL_law_8 : decode cL_law 8 = .ok (.new 10, 3) := by decide +kernel
theorem dL_law_11 : decode cL_law 11 = .ok (.dup, 1) := by decide +kernel
theorem dL_law_12 : decode cL_law 12 = .ok (.invokespecial 12, 3) := by decide +kernel
theorem dL_law_15 : decode cL_law 15 = .ok (.astore_n 2, 1) := by decide +kernel
theorem dL_law_16 : decode cL_law 16 = .ok (.iconst 0, 1) := by decide +kernel
theorem dL_law_17 : decode cL_law 17 = .ok (.istore_n 3, 1) := by decide +kernel
theorem dL_law_18 : decode cL_law 18 = .ok (.iload_n 3, 1) := by decide +kernel
theorem dL_law_19 : decode cL_law 19 = .ok (.aload_n 0, 1) := by decide +kernel
theorem dL_law_20 : decode cL_law 20 = .ok (.arraylength, 1) := by decide +kernel
theorem dL_law_21 : decode cL_law 21 = .ok (.bipush 6, 2) := by decide +kernel
theorem dL_law_23 : decode cL_law 23 = .ok (.isub, 1) := by decide +kernel
theorem dL_law_24 : decode cL_law 24 = .ok (.if_icmp .gt 1608, 3) := by decide +kernel
theorem dL_law_27 : decode cL_law 27 = .ok (.aload_n 0, 1) := by decide +kernel
theorem dL_law_28 : decode cL_law 28 = .ok (.iload_n 3, 1) := by decide +kernel
theorem dL_law_29 : decode cL_law 29 = .ok (.iaload, 1) := by decide +kernel
theorem dL_law_30 : decode cL_law 30 = .ok (.bipush 63, 2) := by decide +kernel
theorem dL_law_32 : decode cL_law 32 = .ok (.iand, 1) := by decide +kernel
theorem dL_law_33 : decode cL_law 33 = .ok (.tableswitch 1593 0 44 #[195, 244, 277, 326, 389, 412, 425, 448, 471, 504, 553, 566, 589, 612, 645, 658, 691, 724, 747, 780, 823, 846, 879, 922, 965, 1008, 1051, 1084, 1097, 1140, 1173, 1216, 1249, 1288, 1348, 1387, 1420, 1433, 1472, 1485, 1498, 1521, 1544, 1557, 1570], 195) := by decide +kernel
theorem dL_law_228 : decode cL_law 228 = .ok (.aload_n 1, 1) := by decide +kernel
theorem dL_law_229 : decode cL_law 229 = .ok (.aload_n 0, 1) := by decide +kernel
theorem dL_law_230 : decode cL_law 230 = .ok (.iload_n 3, 1) := by decide +kernel
theorem dL_law_231 : decode cL_law 231 = .ok (.iconst 1, 1) := by decide +kernel
theorem dL_law_232 : decode cL_law 232 = .ok (.iadd, 1) := by decide +kernel
theorem dL_law_233 : decode cL_law 233 = .ok (.iaload, 1) := by decide +kernel
theorem dL_law_234 : decode cL_law 234 = .ok (.aload_n 0, 1) := by decide +kernel
theorem dL_law_235 : decode cL_law 235 = .ok (.iload_n 3, 1) := by decide +kernel
theorem dL_law_236 : decode cL_law 236 = .ok (.iconst 2, 1) := by decide +kernel
theorem dL_law_237 : decode cL_law 237 = .ok (.iadd, 1) := by decide +kernel
theorem dL_law_238 : decode cL_law 238 = .ok (.iaload, 1) := by decide +kernel
theorem dL_law_239 : decode cL_law 239 = .ok (.ifCond .eq 7, 3) := by decide +kernel
theorem dL_law_242 : decode cL_law 242 = .ok (.iconst 1, 1) := by decide +kernel
theorem dL_law_243 : decode cL_law 243 = .ok (.goto 4, 3) := by decide +kernel
theorem dL_law_246 : decode cL_law 246 = .ok (.iconst 0, 1) := by decide +kernel
theorem dL_law_247 : decode cL_law 247 = .ok (.invokevirtual 13, 3) := by decide +kernel
theorem dL_law_250 : decode cL_law 250 = .ok (.aload_n 2, 1) := by decide +kernel
theorem dL_law_251 : decode cL_law 251 = .ok (.aload_n 0, 1) := by decide +kernel
theorem dL_law_252 : decode cL_law 252 = .ok (.iload_n 3, 1) := by decide +kernel
theorem dL_law_253 : decode cL_law 253 = .ok (.iconst 1, 1) := by decide +kernel
theorem dL_law_254 : decode cL_law 254 = .ok (.iadd, 1) := by decide +kernel
theorem dL_law_255 : decode cL_law 255 = .ok (.iaload, 1) := by decide +kernel
theorem dL_law_256 : decode cL_law 256 = .ok (.aload_n 0, 1) := by decide +kernel
theorem dL_law_257 : decode cL_law 257 = .ok (.iload_n 3, 1) := by decide +kernel
theorem dL_law_258 : decode cL_law 258 = .ok (.iconst 2, 1) := by decide +kernel
theorem dL_law_259 : decode cL_law 259 = .ok (.iadd, 1) := by decide +kernel
theorem dL_law_260 : decode cL_law 260 = .ok (.iaload, 1) := by decide +kernel
theorem dL_law_261 : decode cL_law 261 = .ok (.ifCond .eq 7, 3) := by decide +kernel
theorem dL_law_264 : decode cL_law 264 = .ok (.iconst 1, 1) := by decide +kernel
theorem dL_law_265 : decode cL_law 265 = .ok (.goto 4, 3) := by decide +kernel
theorem dL_law_268 : decode cL_law 268 = .ok (.iconst 0, 1) := by decide +kernel
theorem dL_law_269 : decode cL_law 269 = .ok (.invokevirtual 17, 3) := by decide +kernel
theorem dL_law_272 : decode cL_law 272 = .ok (.if_icmp .eq 1354, 3) := by decide +kernel
theorem dL_law_275 : decode cL_law 275 = .ok (.iconst 0, 1) := by decide +kernel
theorem dL_law_276 : decode cL_law 276 = .ok (.ireturn, 1) := by decide +kernel
theorem dL_law_277 : decode cL_law 277 = .ok (.aload_n 1, 1) := by decide +kernel
theorem dL_law_278 : decode cL_law 278 = .ok (.aload_n 0, 1) := by decide +kernel
theorem dL_law_279 : decode cL_law 279 = .ok (.iload_n 3, 1) := by decide +kernel
theorem dL_law_280 : decode cL_law 280 = .ok (.iconst 1, 1) := by decide +kernel
theorem dL_law_281 : decode cL_law 281 = .ok (.iadd, 1) := by decide +kernel
theorem dL_law_282 : decode cL_law 282 = .ok (.iaload, 1) := by decide +kernel
theorem dL_law_283 : decode cL_law 283 = .ok (.aload_n 0, 1) := by decide +kernel
theorem dL_law_284 : decode cL_law 284 = .ok (.iload_n 3, 1) := by decide +kernel
theorem dL_law_285 : decode cL_law 285 = .ok (.iconst 2, 1) := by decide +kernel
theorem dL_law_286 : decode cL_law 286 = .ok (.iadd, 1) := by decide +kernel
theorem dL_law_287 : decode cL_law 287 = .ok (.iaload, 1) := by decide +kernel
theorem dL_law_288 : decode cL_law 288 = .ok (.invokevirtual 18, 3) := by decide +kernel
theorem dL_law_291 : decode cL_law 291 = .ok (.aload_n 2, 1) := by decide +kernel
theorem dL_law_292 : decode cL_law 292 = .ok (.aload_n 0, 1) := by decide +kernel
theorem dL_law_293 : decode cL_law 293 = .ok (.iload_n 3, 1) := by decide +kernel
theorem dL_law_294 : decode cL_law 294 = .ok (.iconst 1, 1) := by decide +kernel
theorem dL_law_295 : decode cL_law 295 = .ok (.iadd, 1) := by decide +kernel
theorem dL_law_296 : decode cL_law 296 = .ok (.iaload, 1) := by decide +kernel
theorem dL_law_297 : decode cL_law 297 = .ok (.aload_n 0, 1) := by decide +kernel
theorem dL_law_298 : decode cL_law 298 = .ok (.iload_n 3, 1) := by decide +kernel
theorem dL_law_299 : decode cL_law 299 = .ok (.iconst 2, 1) := by decide +kernel
theorem dL_law_300 : decode cL_law 300 = .ok (.iadd, 1) := by decide +kernel
theorem dL_law_301 : decode cL_law 301 = .ok (.iaload, 1) := by decide +kernel
theorem dL_law_302 : decode cL_law 302 = .ok (.invokevirtual 22, 3) := by decide +kernel
theorem dL_law_305 : decode cL_law 305 = .ok (.if_icmp .eq 1321, 3) := by decide +kernel
theorem dL_law_308 : decode cL_law 308 = .ok (.iconst 0, 1) := by decide +kernel
theorem dL_law_309 : decode cL_law 309 = .ok (.ireturn, 1) := by decide +kernel
theorem dL_law_310 : decode cL_law 310 = .ok (.aload_n 1, 1) := by decide +kernel
theorem dL_law_311 : decode cL_law 311 = .ok (.aload_n 0, 1) := by decide +kernel
theorem dL_law_312 : decode cL_law 312 = .ok (.iload_n 3, 1) := by decide +kernel
theorem dL_law_313 : decode cL_law 313 = .ok (.iconst 1, 1) := by decide +kernel
theorem dL_law_314 : decode cL_law 314 = .ok (.iadd, 1) := by decide +kernel
theorem dL_law_315 : decode cL_law 315 = .ok (.iaload, 1) := by decide +kernel
theorem dL_law_316 : decode cL_law 316 = .ok (.aload_n 0, 1) := by decide +kernel
theorem dL_law_317 : decode cL_law 317 = .ok (.iload_n 3, 1) := by decide +kernel
theorem dL_law_318 : decode cL_law 318 = .ok (.iconst 2, 1) := by decide +kernel
theorem dL_law_319 : decode cL_law 319 = .ok (.iadd, 1) := by decide +kernel
theorem dL_law_320 : decode cL_law 320 = .ok (.iaload, 1) := by decide +kernel
theorem dL_law_321 : decode cL_law 321 = .ok (.ifCond .eq 7, 3) := by decide +kernel
theorem dL_law_324 : decode cL_law 324 = .ok (.iconst 1, 1) := by decide +kernel
theorem dL_law_325 : decode cL_law 325 = .ok (.goto 4, 3) := by decide +kernel
theorem dL_law_328 : decode cL_law 328 = .ok (.iconst 0, 1) := by decide +kernel
theorem dL_law_329 : decode cL_law 329 = .ok (.invokevirtual 23, 3) := by decide +kernel
theorem dL_law_332 : decode cL_law 332 = .ok (.aload_n 2, 1) := by decide +kernel
theorem dL_law_333 : decode cL_law 333 = .ok (.aload_n 0, 1) := by decide +kernel
theorem dL_law_334 : decode cL_law 334 = .ok (.iload_n 3, 1) := by decide +kernel
theorem dL_law_335 : decode cL_law 335 = .ok (.iconst 1, 1) := by decide +kernel
theorem dL_law_336 : decode cL_law 336 = .ok (.iadd, 1) := by decide +kernel
theorem dL_law_337 : decode cL_law 337 = .ok (.iaload, 1) := by decide +kernel
theorem dL_law_338 : decode cL_law 338 = .ok (.aload_n 0, 1) := by decide +kernel
theorem dL_law_339 : decode cL_law 339 = .ok (.iload_n 3, 1) := by decide +kernel
theorem dL_law_340 : decode cL_law 340 = .ok (.iconst 2, 1) := by decide +kernel
theorem dL_law_341 : decode cL_law 341 = .ok (.iadd, 1) := by decide +kernel
theorem dL_law_342 : decode cL_law 342 = .ok (.iaload, 1) := by decide +kernel
theorem dL_law_343 : decode cL_law 343 = .ok (.ifCond .eq 7, 3) := by decide +kernel
theorem dL_law_346 : decode cL_law 346 = .ok (.iconst 1, 1) := by decide +kernel
theorem dL_law_347 : decode cL_law 347 = .ok (.goto 4, 3) := by decide +kernel
theorem dL_law_350 : decode cL_law 350 = .ok (.iconst 0, 1) := by decide +kernel
theorem dL_law_351 : decode cL_law 351 = .ok (.invokevirtual 27, 3) := by decide +kernel
theorem dL_law_354 : decode cL_law 354 = .ok (.if_icmp .eq 1272, 3) := by decide +kernel
theorem dL_law_357 : decode cL_law 357 = .ok (.iconst 0, 1) := by decide +kernel
theorem dL_law_358 : decode cL_law 358 = .ok (.ireturn, 1) := by decide +kernel
theorem dL_law_359 : decode cL_law 359 = .ok (.aload_n 1, 1) := by decide +kernel
theorem dL_law_360 : decode cL_law 360 = .ok (.aload_n 0, 1) := by decide +kernel
theorem dL_law_361 : decode cL_law 361 = .ok (.iload_n 3, 1) := by decide +kernel
theorem dL_law_362 : decode cL_law 362 = .ok (.iconst 1, 1) := by decide +kernel
theorem dL_law_363 : decode cL_law 363 = .ok (.iadd, 1) := by decide +kernel
theorem dL_law_364 : decode cL_law 364 = .ok (.iaload, 1) := by decide +kernel
theorem dL_law_365 : decode cL_law 365 = .ok (.aload_n 0, 1) := by decide +kernel
theorem dL_law_366 : decode cL_law 366 = .ok (.iload_n 3, 1) := by decide +kernel
theorem dL_law_367 : decode cL_law 367 = .ok (.iconst 2, 1) := by decide +kernel
theorem dL_law_368 : decode cL_law 368 = .ok (.iadd, 1) := by decide +kernel
theorem dL_law_369 : decode cL_law 369 = .ok (.iaload, 1) := by decide +kernel
theorem dL_law_370 : decode cL_law 370 = .ok (.aload_n 0, 1) := by decide +kernel
theorem dL_law_371 : decode cL_law 371 = .ok (.iload_n 3, 1) := by decide +kernel
theorem dL_law_372 : decode cL_law 372 = .ok (.iconst 3, 1) := by decide +kernel
theorem dL_law_373 : decode cL_law 373 = .ok (.iadd, 1) := by decide +kernel
theorem dL_law_374 : decode cL_law 374 = .ok (.iaload, 1) := by decide +kernel
theorem dL_law_375 : decode cL_law 375 = .ok (.aload_n 0, 1) := by decide +kernel
theorem dL_law_376 : decode cL_law 376 = .ok (.iload_n 3, 1) := by decide +kernel
theorem dL_law_377 : decode cL_law 377 = .ok (.iconst 4, 1) := by decide +kernel
theorem dL_law_378 : decode cL_law 378 = .ok (.iadd, 1) := by decide +kernel
theorem dL_law_379 : decode cL_law 379 = .ok (.iaload, 1) := by decide +kernel
theorem dL_law_380 : decode cL_law 380 = .ok (.aload_n 0, 1) := by decide +kernel
theorem dL_law_381 : decode cL_law 381 = .ok (.iload_n 3, 1) := by decide +kernel
theorem dL_law_382 : decode cL_law 382 = .ok (.iconst 5, 1) := by decide +kernel
theorem dL_law_383 : decode cL_law 383 = .ok (.iadd, 1) := by decide +kernel
theorem dL_law_384 : decode cL_law 384 = .ok (.iaload, 1) := by decide +kernel
theorem dL_law_385 : decode cL_law 385 = .ok (.invokevirtual 28, 3) := by decide +kernel
theorem dL_law_388 : decode cL_law 388 = .ok (.aload_n 2, 1) := by decide +kernel
theorem dL_law_389 : decode cL_law 389 = .ok (.aload_n 0, 1) := by decide +kernel
theorem dL_law_390 : decode cL_law 390 = .ok (.iload_n 3, 1) := by decide +kernel
theorem dL_law_391 : decode cL_law 391 = .ok (.iconst 1, 1) := by decide +kernel
theorem dL_law_392 : decode cL_law 392 = .ok (.iadd, 1) := by decide +kernel
theorem dL_law_393 : decode cL_law 393 = .ok (.iaload, 1) := by decide +kernel
theorem dL_law_394 : decode cL_law 394 = .ok (.aload_n 0, 1) := by decide +kernel
theorem dL_law_395 : decode cL_law 395 = .ok (.iload_n 3, 1) := by decide +kernel
theorem dL_law_396 : decode cL_law 396 = .ok (.iconst 2, 1) := by decide +kernel
theorem dL_law_397 : decode cL_law 397 = .ok (.iadd, 1) := by decide +kernel
theorem dL_law_398 : decode cL_law 398 = .ok (.iaload, 1) := by decide +kernel
theorem dL_law_399 : decode cL_law 399 = .ok (.aload_n 0, 1) := by decide +kernel
theorem dL_law_400 : decode cL_law 400 = .ok (.iload_n 3, 1) := by decide +kernel
theorem dL_law_401 : decode cL_law 401 = .ok (.iconst 3, 1) := by decide +kernel
theorem dL_law_402 : decode cL_law 402 = .ok (.iadd, 1) := by decide +kernel
theorem dL_law_403 : decode cL_law 403 = .ok (.iaload, 1) := by decide +kernel
theorem dL_law_404 : decode cL_law 404 = .ok (.aload_n 0, 1) := by decide +kernel
theorem dL_law_405 : decode cL_law 405 = .ok (.iload_n 3, 1) := by decide +kernel
theorem dL_law_406 : decode cL_law 406 = .ok (.iconst 4, 1) := by decide +kernel
theorem dL_law_407 : decode cL_law 407 = .ok (.iadd, 1) := by decide +kernel
theorem dL_law_408 : decode cL_law 408 = .ok (.iaload, 1) := by decide +kernel
theorem dL_law_409 : decode cL_law 409 = .ok (.aload_n 0, 1) := by decide +kernel
theorem dL_law_410 : decode cL_law 410 = .ok (.iload_n 3, 1) := by decide +kernel
theorem dL_law_411 : decode cL_law 411 = .ok (.iconst 5, 1) := by decide +kernel
theorem dL_law_412 : decode cL_law 412 = .ok (.iadd, 1) := by decide +kernel
theorem dL_law_413 : decode cL_law 413 = .ok (.iaload, 1) := by decide +kernel
theorem dL_law_414 : decode cL_law 414 = .ok (.invokevirtual 32, 3) := by decide +kernel
theorem dL_law_417 : decode cL_law 417 = .ok (.if_icmp .eq 1209, 3) := by decide +kernel
theorem dL_law_420 : decode cL_law 420 = .ok (.iconst 0, 1) := by decide +kernel
theorem dL_law_421 : decode cL_law 421 = .ok (.ireturn, 1) := by decide +kernel
theorem dL_law_422 : decode cL_law 422 = .ok (.aload_n 1, 1) := by decide +kernel
theorem dL_law_423 : decode cL_law 423 = .ok (.aload_n 0, 1) := by decide +kernel
theorem dL_law_424 : decode cL_law 424 = .ok (.iload_n 3, 1) := by decide +kernel
theorem dL_law_425 : decode cL_law 425 = .ok (.iconst 1, 1) := by decide +kernel
theorem dL_law_426 : decode cL_law 426 = .ok (.iadd, 1) := by decide +kernel
theorem dL_law_427 : decode cL_law 427 = .ok (.iaload, 1) := by decide +kernel
theorem dL_law_428 : decode cL_law 428 = .ok (.invokevirtual 33, 3) := by decide +kernel
theorem dL_law_431 : decode cL_law 431 = .ok (.aload_n 2, 1) := by decide +kernel
theorem dL_law_432 : decode cL_law 432 = .ok (.aload_n 0, 1) := by decide +kernel
theorem dL_law_433 : decode cL_law 433 = .ok (.iload_n 3, 1) := by decide +kernel
theorem dL_law_434 : decode cL_law 434 = .ok (.iconst 1, 1) := by decide +kernel
theorem dL_law_435 : decode cL_law 435 = .ok (.iadd, 1) := by decide +kernel
theorem dL_law_436 : decode cL_law 436 = .ok (.iaload, 1) := by decide +kernel
theorem dL_law_437 : decode cL_law 437 = .ok (.invokevirtual 37, 3) := by decide +kernel
theorem dL_law_440 : decode cL_law 440 = .ok (.if_icmp .eq 1186, 3) := by decide +kernel
theorem dL_law_443 : decode cL_law 443 = .ok (.iconst 0, 1) := by decide +kernel
theorem dL_law_444 : decode cL_law 444 = .ok (.ireturn, 1) := by decide +kernel
theorem dL_law_445 : decode cL_law 445 = .ok (.aload_n 1, 1) := by decide +kernel
theorem dL_law_446 : decode cL_law 446 = .ok (.invokevirtual 38, 3) := by decide +kernel
theorem dL_law_449 : decode cL_law 449 = .ok (.aload_n 2, 1) := by decide +kernel
theorem dL_law_450 : decode cL_law 450 = .ok (.invokevirtual 42, 3) := by decide +kernel
theorem dL_law_453 : decode cL_law 453 = .ok (.if_icmp .eq 1173, 3) := by decide +kernel
theorem dL_law_456 : decode cL_law 456 = .ok (.iconst 0, 1) := by decide +kernel
theorem dL_law_457 : decode cL_law 457 = .ok (.ireturn, 1) := by decide +kernel
theorem dL_law_458 : decode cL_law 458 = .ok (.aload_n 1, 1) := by decide +kernel
theorem dL_law_459 : decode cL_law 459 = .ok (.aload_n 0, 1) := by decide +kernel
theorem dL_law_460 : decode cL_law 460 = .ok (.iload_n 3, 1) := by decide +kernel
theorem dL_law_461 : decode cL_law 461 = .ok (.iconst 1, 1) := by decide +kernel
theorem dL_law_462 : decode cL_law 462 = .ok (.iadd, 1) := by decide +kernel
theorem dL_law_463 : decode cL_law 463 = .ok (.iaload, 1) := by decide +kernel
theorem dL_law_464 : decode cL_law 464 = .ok (.invokevirtual 43, 3) := by decide +kernel
theorem dL_law_467 : decode cL_law 467 = .ok (.aload_n 2, 1) := by decide +kernel
theorem dL_law_468 : decode cL_law 468 = .ok (.aload_n 0, 1) := by decide +kernel
theorem dL_law_469 : decode cL_law 469 = .ok (.iload_n 3, 1) := by decide +kernel
theorem dL_law_470 : decode cL_law 470 = .ok (.iconst 1, 1) := by decide +kernel
theorem dL_law_471 : decode cL_law 471 = .ok (.iadd, 1) := by decide +kernel
theorem dL_law_472 : decode cL_law 472 = .ok (.iaload, 1) := by decide +kernel
theorem dL_law_473 : decode cL_law 473 = .ok (.invokevirtual 46, 3) := by decide +kernel
theorem dL_law_476 : decode cL_law 476 = .ok (.if_icmp .eq 1150, 3) := by decide +kernel
theorem dL_law_479 : decode cL_law 479 = .ok (.iconst 0, 1) := by decide +kernel
theorem dL_law_480 : decode cL_law 480 = .ok (.ireturn, 1) := by decide +kernel
theorem dL_law_481 : decode cL_law 481 = .ok (.aload_n 1, 1) := by decide +kernel
theorem dL_law_482 : decode cL_law 482 = .ok (.aload_n 0, 1) := by decide +kernel
theorem dL_law_483 : decode cL_law 483 = .ok (.iload_n 3, 1) := by decide +kernel
theorem dL_law_484 : decode cL_law 484 = .ok (.iconst 1, 1) := by decide +kernel
theorem dL_law_485 : decode cL_law 485 = .ok (.iadd, 1) := by decide +kernel
theorem dL_law_486 : decode cL_law 486 = .ok (.iaload, 1) := by decide +kernel
theorem dL_law_487 : decode cL_law 487 = .ok (.invokevirtual 47, 3) := by decide +kernel
theorem dL_law_490 : decode cL_law 490 = .ok (.aload_n 2, 1) := by decide +kernel
theorem dL_law_491 : decode cL_law 491 = .ok (.aload_n 0, 1) := by decide +kernel
theorem dL_law_492 : decode cL_law 492 = .ok (.iload_n 3, 1) := by decide +kernel
theorem dL_law_493 : decode cL_law 493 = .ok (.iconst 1, 1) := by decide +kernel
theorem dL_law_494 : decode cL_law 494 = .ok (.iadd, 1) := by decide +kernel
theorem dL_law_495 : decode cL_law 495 = .ok (.iaload, 1) := by decide +kernel
theorem dL_law_496 : decode cL_law 496 = .ok (.invokevirtual 51, 3) := by decide +kernel
theorem dL_law_499 : decode cL_law 499 = .ok (.if_icmp .eq 1127, 3) := by decide +kernel
theorem dL_law_502 : decode cL_law 502 = .ok (.iconst 0, 1) := by decide +kernel
theorem dL_law_503 : decode cL_law 503 = .ok (.ireturn, 1) := by decide +kernel
theorem dL_law_504 : decode cL_law 504 = .ok (.aload_n 1, 1) := by decide +kernel
theorem dL_law_505 : decode cL_law 505 = .ok (.aload_n 0, 1) := by decide +kernel
theorem dL_law_506 : decode cL_law 506 = .ok (.iload_n 3, 1) := by decide +kernel
theorem dL_law_507 : decode cL_law 507 = .ok (.iconst 1, 1) := by decide +kernel
theorem dL_law_508 : decode cL_law 508 = .ok (.iadd, 1) := by decide +kernel
theorem dL_law_509 : decode cL_law 509 = .ok (.iaload, 1) := by decide +kernel
theorem dL_law_510 : decode cL_law 510 = .ok (.aload_n 0, 1) := by decide +kernel
theorem dL_law_511 : decode cL_law 511 = .ok (.iload_n 3, 1) := by decide +kernel
theorem dL_law_512 : decode cL_law 512 = .ok (.iconst 2, 1) := by decide +kernel
theorem dL_law_513 : decode cL_law 513 = .ok (.iadd, 1) := by decide +kernel
theorem dL_law_514 : decode cL_law 514 = .ok (.iaload, 1) := by decide +kernel
theorem dL_law_515 : decode cL_law 515 = .ok (.invokevirtual 52, 3) := by decide +kernel
theorem dL_law_518 : decode cL_law 518 = .ok (.aload_n 2, 1) := by decide +kernel
theorem dL_law_519 : decode cL_law 519 = .ok (.aload_n 0, 1) := by decide +kernel
theorem dL_law_520 : decode cL_law 520 = .ok (.iload_n 3, 1) := by decide +kernel
theorem dL_law_521 : decode cL_law 521 = .ok (.iconst 1, 1) := by decide +kernel
theorem dL_law_522 : decode cL_law 522 = .ok (.iadd, 1) := by decide +kernel
theorem dL_law_523 : decode cL_law 523 = .ok (.iaload, 1) := by decide +kernel
theorem dL_law_524 : decode cL_law 524 = .ok (.aload_n 0, 1) := by decide +kernel
theorem dL_law_525 : decode cL_law 525 = .ok (.iload_n 3, 1) := by decide +kernel
theorem dL_law_526 : decode cL_law 526 = .ok (.iconst 2, 1) := by decide +kernel
theorem dL_law_527 : decode cL_law 527 = .ok (.iadd, 1) := by decide +kernel
theorem dL_law_528 : decode cL_law 528 = .ok (.iaload, 1) := by decide +kernel
theorem dL_law_529 : decode cL_law 529 = .ok (.invokevirtual 55, 3) := by decide +kernel
theorem dL_law_532 : decode cL_law 532 = .ok (.if_icmp .eq 1094, 3) := by decide +kernel
theorem dL_law_535 : decode cL_law 535 = .ok (.iconst 0, 1) := by decide +kernel
theorem dL_law_536 : decode cL_law 536 = .ok (.ireturn, 1) := by decide +kernel
theorem dL_law_537 : decode cL_law 537 = .ok (.aload_n 1, 1) := by decide +kernel
theorem dL_law_538 : decode cL_law 538 = .ok (.aload_n 0, 1) := by decide +kernel
theorem dL_law_539 : decode cL_law 539 = .ok (.iload_n 3, 1) := by decide +kernel
theorem dL_law_540 : decode cL_law 540 = .ok (.iconst 1, 1) := by decide +kernel
theorem dL_law_541 : decode cL_law 541 = .ok (.iadd, 1) := by decide +kernel
theorem dL_law_542 : decode cL_law 542 = .ok (.iaload, 1) := by decide +kernel
theorem dL_law_543 : decode cL_law 543 = .ok (.aload_n 0, 1) := by decide +kernel
theorem dL_law_544 : decode cL_law 544 = .ok (.iload_n 3, 1) := by decide +kernel
theorem dL_law_545 : decode cL_law 545 = .ok (.iconst 2, 1) := by decide +kernel
theorem dL_law_546 : decode cL_law 546 = .ok (.iadd, 1) := by decide +kernel
theorem dL_law_547 : decode cL_law 547 = .ok (.iaload, 1) := by decide +kernel
theorem dL_law_548 : decode cL_law 548 = .ok (.ifCond .eq 7, 3) := by decide +kernel
theorem dL_law_551 : decode cL_law 551 = .ok (.iconst 1, 1) := by decide +kernel
theorem dL_law_552 : decode cL_law 552 = .ok (.goto 4, 3) := by decide +kernel
theorem dL_law_555 : decode cL_law 555 = .ok (.iconst 0, 1) := by decide +kernel
theorem dL_law_556 : decode cL_law 556 = .ok (.invokevirtual 56, 3) := by decide +kernel
theorem dL_law_559 : decode cL_law 559 = .ok (.aload_n 2, 1) := by decide +kernel
theorem dL_law_560 : decode cL_law 560 = .ok (.aload_n 0, 1) := by decide +kernel
theorem dL_law_561 : decode cL_law 561 = .ok (.iload_n 3, 1) := by decide +kernel
theorem dL_law_562 : decode cL_law 562 = .ok (.iconst 1, 1) := by decide +kernel
theorem dL_law_563 : decode cL_law 563 = .ok (.iadd, 1) := by decide +kernel
theorem dL_law_564 : decode cL_law 564 = .ok (.iaload, 1) := by decide +kernel
theorem dL_law_565 : decode cL_law 565 = .ok (.aload_n 0, 1) := by decide +kernel
theorem dL_law_566 : decode cL_law 566 = .ok (.iload_n 3, 1) := by decide +kernel
theorem dL_law_567 : decode cL_law 567 = .ok (.iconst 2, 1) := by decide +kernel
theorem dL_law_568 : decode cL_law 568 = .ok (.iadd, 1) := by decide +kernel
theorem dL_law_569 : decode cL_law 569 = .ok (.iaload, 1) := by decide +kernel
theorem dL_law_570 : decode cL_law 570 = .ok (.ifCond .eq 7, 3) := by decide +kernel
theorem dL_law_573 : decode cL_law 573 = .ok (.iconst 1, 1) := by decide +kernel
theorem dL_law_574 : decode cL_law 574 = .ok (.goto 4, 3) := by decide +kernel
theorem dL_law_577 : decode cL_law 577 = .ok (.iconst 0, 1) := by decide +kernel
theorem dL_law_578 : decode cL_law 578 = .ok (.invokevirtual 59, 3) := by decide +kernel
theorem dL_law_581 : decode cL_law 581 = .ok (.if_icmp .eq 1045, 3) := by decide +kernel
theorem dL_law_584 : decode cL_law 584 = .ok (.iconst 0, 1) := by decide +kernel
theorem dL_law_585 : decode cL_law 585 = .ok (.ireturn, 1) := by decide +kernel
theorem dL_law_586 : decode cL_law 586 = .ok (.aload_n 1, 1) := by decide +kernel
theorem dL_law_587 : decode cL_law 587 = .ok (.invokevirtual 60, 3) := by decide +kernel
theorem dL_law_590 : decode cL_law 590 = .ok (.aload_n 2, 1) := by decide +kernel
theorem dL_law_591 : decode cL_law 591 = .ok (.invokevirtual 63, 3) := by decide +kernel
theorem dL_law_594 : decode cL_law 594 = .ok (.if_icmp .eq 1032, 3) := by decide +kernel
theorem dL_law_597 : decode cL_law 597 = .ok (.iconst 0, 1) := by decide +kernel
theorem dL_law_598 : decode cL_law 598 = .ok (.ireturn, 1) := by decide +kernel
theorem dL_law_599 : decode cL_law 599 = .ok (.aload_n 1, 1) := by decide +kernel
theorem dL_law_600 : decode cL_law 600 = .ok (.aload_n 0, 1) := by decide +kernel
theorem dL_law_601 : decode cL_law 601 = .ok (.iload_n 3, 1) := by decide +kernel
theorem dL_law_602 : decode cL_law 602 = .ok (.iconst 1, 1) := by decide +kernel
theorem dL_law_603 : decode cL_law 603 = .ok (.iadd, 1) := by decide +kernel
theorem dL_law_604 : decode cL_law 604 = .ok (.iaload, 1) := by decide +kernel
theorem dL_law_605 : decode cL_law 605 = .ok (.invokevirtual 64, 3) := by decide +kernel
theorem dL_law_608 : decode cL_law 608 = .ok (.aload_n 2, 1) := by decide +kernel
theorem dL_law_609 : decode cL_law 609 = .ok (.aload_n 0, 1) := by decide +kernel
theorem dL_law_610 : decode cL_law 610 = .ok (.iload_n 3, 1) := by decide +kernel
theorem dL_law_611 : decode cL_law 611 = .ok (.iconst 1, 1) := by decide +kernel
theorem dL_law_612 : decode cL_law 612 = .ok (.iadd, 1) := by decide +kernel
theorem dL_law_613 : decode cL_law 613 = .ok (.iaload, 1) := by decide +kernel
theorem dL_law_614 : decode cL_law 614 = .ok (.invokevirtual 67, 3) := by decide +kernel
theorem dL_law_617 : decode cL_law 617 = .ok (.if_icmp .eq 1009, 3) := by decide +kernel
theorem dL_law_620 : decode cL_law 620 = .ok (.iconst 0, 1) := by decide +kernel
theorem dL_law_621 : decode cL_law 621 = .ok (.ireturn, 1) := by decide +kernel
theorem dL_law_622 : decode cL_law 622 = .ok (.aload_n 1, 1) := by decide +kernel
theorem dL_law_623 : decode cL_law 623 = .ok (.aload_n 0, 1) := by decide +kernel
theorem dL_law_624 : decode cL_law 624 = .ok (.iload_n 3, 1) := by decide +kernel
theorem dL_law_625 : decode cL_law 625 = .ok (.iconst 1, 1) := by decide +kernel
theorem dL_law_626 : decode cL_law 626 = .ok (.iadd, 1) := by decide +kernel
theorem dL_law_627 : decode cL_law 627 = .ok (.iaload, 1) := by decide +kernel
theorem dL_law_628 : decode cL_law 628 = .ok (.invokevirtual 68, 3) := by decide +kernel
theorem dL_law_631 : decode cL_law 631 = .ok (.aload_n 2, 1) := by decide +kernel
theorem dL_law_632 : decode cL_law 632 = .ok (.aload_n 0, 1) := by decide +kernel
theorem dL_law_633 : decode cL_law 633 = .ok (.iload_n 3, 1) := by decide +kernel
theorem dL_law_634 : decode cL_law 634 = .ok (.iconst 1, 1) := by decide +kernel
theorem dL_law_635 : decode cL_law 635 = .ok (.iadd, 1) := by decide +kernel
theorem dL_law_636 : decode cL_law 636 = .ok (.iaload, 1) := by decide +kernel
theorem dL_law_637 : decode cL_law 637 = .ok (.invokevirtual 71, 3) := by decide +kernel
theorem dL_law_640 : decode cL_law 640 = .ok (.if_icmp .eq 986, 3) := by decide +kernel
theorem dL_law_643 : decode cL_law 643 = .ok (.iconst 0, 1) := by decide +kernel
theorem dL_law_644 : decode cL_law 644 = .ok (.ireturn, 1) := by decide +kernel
theorem dL_law_645 : decode cL_law 645 = .ok (.aload_n 1, 1) := by decide +kernel
theorem dL_law_646 : decode cL_law 646 = .ok (.aload_n 0, 1) := by decide +kernel
theorem dL_law_647 : decode cL_law 647 = .ok (.iload_n 3, 1) := by decide +kernel
theorem dL_law_648 : decode cL_law 648 = .ok (.iconst 1, 1) := by decide +kernel
theorem dL_law_649 : decode cL_law 649 = .ok (.iadd, 1) := by decide +kernel
theorem dL_law_650 : decode cL_law 650 = .ok (.iaload, 1) := by decide +kernel
theorem dL_law_651 : decode cL_law 651 = .ok (.aload_n 0, 1) := by decide +kernel
theorem dL_law_652 : decode cL_law 652 = .ok (.iload_n 3, 1) := by decide +kernel
theorem dL_law_653 : decode cL_law 653 = .ok (.iconst 2, 1) := by decide +kernel
theorem dL_law_654 : decode cL_law 654 = .ok (.iadd, 1) := by decide +kernel
theorem dL_law_655 : decode cL_law 655 = .ok (.iaload, 1) := by decide +kernel
theorem dL_law_656 : decode cL_law 656 = .ok (.invokevirtual 72, 3) := by decide +kernel
theorem dL_law_659 : decode cL_law 659 = .ok (.aload_n 2, 1) := by decide +kernel
theorem dL_law_660 : decode cL_law 660 = .ok (.aload_n 0, 1) := by decide +kernel
theorem dL_law_661 : decode cL_law 661 = .ok (.iload_n 3, 1) := by decide +kernel
theorem dL_law_662 : decode cL_law 662 = .ok (.iconst 1, 1) := by decide +kernel
theorem dL_law_663 : decode cL_law 663 = .ok (.iadd, 1) := by decide +kernel
theorem dL_law_664 : decode cL_law 664 = .ok (.iaload, 1) := by decide +kernel
theorem dL_law_665 : decode cL_law 665 = .ok (.aload_n 0, 1) := by decide +kernel
theorem dL_law_666 : decode cL_law 666 = .ok (.iload_n 3, 1) := by decide +kernel
theorem dL_law_667 : decode cL_law 667 = .ok (.iconst 2, 1) := by decide +kernel
theorem dL_law_668 : decode cL_law 668 = .ok (.iadd, 1) := by decide +kernel
theorem dL_law_669 : decode cL_law 669 = .ok (.iaload, 1) := by decide +kernel
theorem dL_law_670 : decode cL_law 670 = .ok (.invokevirtual 76, 3) := by decide +kernel
theorem dL_law_673 : decode cL_law 673 = .ok (.if_icmp .eq 953, 3) := by decide +kernel
theorem dL_law_676 : decode cL_law 676 = .ok (.iconst 0, 1) := by decide +kernel
theorem dL_law_677 : decode cL_law 677 = .ok (.ireturn, 1) := by decide +kernel
theorem dL_law_678 : decode cL_law 678 = .ok (.aload_n 1, 1) := by decide +kernel
theorem dL_law_679 : decode cL_law 679 = .ok (.invokevirtual 77, 3) := by decide +kernel
theorem dL_law_682 : decode cL_law 682 = .ok (.aload_n 2, 1) := by decide +kernel
theorem dL_law_683 : decode cL_law 683 = .ok (.invokevirtual 80, 3) := by decide +kernel
theorem dL_law_686 : decode cL_law 686 = .ok (.if_icmp .eq 940, 3) := by decide +kernel
theorem dL_law_689 : decode cL_law 689 = .ok (.iconst 0, 1) := by decide +kernel
theorem dL_law_690 : decode cL_law 690 = .ok (.ireturn, 1) := by decide +kernel
theorem dL_law_691 : decode cL_law 691 = .ok (.aload_n 1, 1) := by decide +kernel
theorem dL_law_692 : decode cL_law 692 = .ok (.aload_n 0, 1) := by decide +kernel
theorem dL_law_693 : decode cL_law 693 = .ok (.iload_n 3, 1) := by decide +kernel
theorem dL_law_694 : decode cL_law 694 = .ok (.iconst 1, 1) := by decide +kernel
theorem dL_law_695 : decode cL_law 695 = .ok (.iadd, 1) := by decide +kernel
theorem dL_law_696 : decode cL_law 696 = .ok (.iaload, 1) := by decide +kernel
theorem dL_law_697 : decode cL_law 697 = .ok (.aload_n 0, 1) := by decide +kernel
theorem dL_law_698 : decode cL_law 698 = .ok (.iload_n 3, 1) := by decide +kernel
theorem dL_law_699 : decode cL_law 699 = .ok (.iconst 2, 1) := by decide +kernel
theorem dL_law_700 : decode cL_law 700 = .ok (.iadd, 1) := by decide +kernel
theorem dL_law_701 : decode cL_law 701 = .ok (.iaload, 1) := by decide +kernel
theorem dL_law_702 : decode cL_law 702 = .ok (.invokevirtual 81, 3) := by decide +kernel
theorem dL_law_705 : decode cL_law 705 = .ok (.aload_n 2, 1) := by decide +kernel
theorem dL_law_706 : decode cL_law 706 = .ok (.aload_n 0, 1) := by decide +kernel
theorem dL_law_707 : decode cL_law 707 = .ok (.iload_n 3, 1) := by decide +kernel
theorem dL_law_708 : decode cL_law 708 = .ok (.iconst 1, 1) := by decide +kernel
theorem dL_law_709 : decode cL_law 709 = .ok (.iadd, 1) := by decide +kernel
theorem dL_law_710 : decode cL_law 710 = .ok (.iaload, 1) := by decide +kernel
theorem dL_law_711 : decode cL_law 711 = .ok (.aload_n 0, 1) := by decide +kernel
theorem dL_law_712 : decode cL_law 712 = .ok (.iload_n 3, 1) := by decide +kernel
theorem dL_law_713 : decode cL_law 713 = .ok (.iconst 2, 1) := by decide +kernel
theorem dL_law_714 : decode cL_law 714 = .ok (.iadd, 1) := by decide +kernel
theorem dL_law_715 : decode cL_law 715 = .ok (.iaload, 1) := by decide +kernel
theorem dL_law_716 : decode cL_law 716 = .ok (.invokevirtual 84, 3) := by decide +kernel
theorem dL_law_719 : decode cL_law 719 = .ok (.if_icmp .eq 907, 3) := by decide +kernel
theorem dL_law_722 : decode cL_law 722 = .ok (.iconst 0, 1) := by decide +kernel
theorem dL_law_723 : decode cL_law 723 = .ok (.ireturn, 1) := by decide +kernel
theorem dL_law_724 : decode cL_law 724 = .ok (.aload_n 1, 1) := by decide +kernel
theorem dL_law_725 : decode cL_law 725 = .ok (.aload_n 0, 1) := by decide +kernel
theorem dL_law_726 : decode cL_law 726 = .ok (.iload_n 3, 1) := by decide +kernel
theorem dL_law_727 : decode cL_law 727 = .ok (.iconst 1, 1) := by decide +kernel
theorem dL_law_728 : decode cL_law 728 = .ok (.iadd, 1) := by decide +kernel
theorem dL_law_729 : decode cL_law 729 = .ok (.iaload, 1) := by decide +kernel
theorem dL_law_730 : decode cL_law 730 = .ok (.aload_n 0, 1) := by decide +kernel
theorem dL_law_731 : decode cL_law 731 = .ok (.iload_n 3, 1) := by decide +kernel
theorem dL_law_732 : decode cL_law 732 = .ok (.iconst 2, 1) := by decide +kernel
theorem dL_law_733 : decode cL_law 733 = .ok (.iadd, 1) := by decide +kernel
theorem dL_law_734 : decode cL_law 734 = .ok (.iaload, 1) := by decide +kernel
theorem dL_law_735 : decode cL_law 735 = .ok (.invokevirtual 85, 3) := by decide +kernel
theorem dL_law_738 : decode cL_law 738 = .ok (.aload_n 2, 1) := by decide +kernel
theorem dL_law_739 : decode cL_law 739 = .ok (.aload_n 0, 1) := by decide +kernel
theorem dL_law_740 : decode cL_law 740 = .ok (.iload_n 3, 1) := by decide +kernel
theorem dL_law_741 : decode cL_law 741 = .ok (.iconst 1, 1) := by decide +kernel
theorem dL_law_742 : decode cL_law 742 = .ok (.iadd, 1) := by decide +kernel
theorem dL_law_743 : decode cL_law 743 = .ok (.iaload, 1) := by decide +kernel
theorem dL_law_744 : decode cL_law 744 = .ok (.aload_n 0, 1) := by decide +kernel
theorem dL_law_745 : decode cL_law 745 = .ok (.iload_n 3, 1) := by decide +kernel
theorem dL_law_746 : decode cL_law 746 = .ok (.iconst 2, 1) := by decide +kernel
theorem dL_law_747 : decode cL_law 747 = .ok (.iadd, 1) := by decide +kernel
theorem dL_law_748 : decode cL_law 748 = .ok (.iaload, 1) := by decide +kernel
theorem dL_law_749 : decode cL_law 749 = .ok (.invokevirtual 88, 3) := by decide +kernel
theorem dL_law_752 : decode cL_law 752 = .ok (.if_icmp .eq 874, 3) := by decide +kernel
theorem dL_law_755 : decode cL_law 755 = .ok (.iconst 0, 1) := by decide +kernel
theorem dL_law_756 : decode cL_law 756 = .ok (.ireturn, 1) := by decide +kernel
theorem dL_law_757 : decode cL_law 757 = .ok (.aload_n 1, 1) := by decide +kernel
theorem dL_law_758 : decode cL_law 758 = .ok (.aload_n 0, 1) := by decide +kernel
theorem dL_law_759 : decode cL_law 759 = .ok (.iload_n 3, 1) := by decide +kernel
theorem dL_law_760 : decode cL_law 760 = .ok (.iconst 1, 1) := by decide +kernel
theorem dL_law_761 : decode cL_law 761 = .ok (.iadd, 1) := by decide +kernel
theorem dL_law_762 : decode cL_law 762 = .ok (.iaload, 1) := by decide +kernel
theorem dL_law_763 : decode cL_law 763 = .ok (.invokevirtual 89, 3) := by decide +kernel
theorem dL_law_766 : decode cL_law 766 = .ok (.aload_n 2, 1) := by decide +kernel
theorem dL_law_767 : decode cL_law 767 = .ok (.aload_n 0, 1) := by decide +kernel
theorem dL_law_768 : decode cL_law 768 = .ok (.iload_n 3, 1) := by decide +kernel
theorem dL_law_769 : decode cL_law 769 = .ok (.iconst 1, 1) := by decide +kernel
theorem dL_law_770 : decode cL_law 770 = .ok (.iadd, 1) := by decide +kernel
theorem dL_law_771 : decode cL_law 771 = .ok (.iaload, 1) := by decide +kernel
theorem dL_law_772 : decode cL_law 772 = .ok (.invokevirtual 92, 3) := by decide +kernel
theorem dL_law_775 : decode cL_law 775 = .ok (.if_icmp .eq 851, 3) := by decide +kernel
theorem dL_law_778 : decode cL_law 778 = .ok (.iconst 0, 1) := by decide +kernel
theorem dL_law_779 : decode cL_law 779 = .ok (.ireturn, 1) := by decide +kernel
theorem dL_law_780 : decode cL_law 780 = .ok (.aload_n 1, 1) := by decide +kernel
theorem dL_law_781 : decode cL_law 781 = .ok (.aload_n 0, 1) := by decide +kernel
theorem dL_law_782 : decode cL_law 782 = .ok (.iload_n 3, 1) := by decide +kernel
theorem dL_law_783 : decode cL_law 783 = .ok (.iconst 1, 1) := by decide +kernel
theorem dL_law_784 : decode cL_law 784 = .ok (.iadd, 1) := by decide +kernel
theorem dL_law_785 : decode cL_law 785 = .ok (.iaload, 1) := by decide +kernel
theorem dL_law_786 : decode cL_law 786 = .ok (.aload_n 0, 1) := by decide +kernel
theorem dL_law_787 : decode cL_law 787 = .ok (.iload_n 3, 1) := by decide +kernel
theorem dL_law_788 : decode cL_law 788 = .ok (.iconst 2, 1) := by decide +kernel
theorem dL_law_789 : decode cL_law 789 = .ok (.iadd, 1) := by decide +kernel
theorem dL_law_790 : decode cL_law 790 = .ok (.iaload, 1) := by decide +kernel
theorem dL_law_791 : decode cL_law 791 = .ok (.invokevirtual 93, 3) := by decide +kernel
theorem dL_law_794 : decode cL_law 794 = .ok (.aload_n 2, 1) := by decide +kernel
theorem dL_law_795 : decode cL_law 795 = .ok (.aload_n 0, 1) := by decide +kernel
theorem dL_law_796 : decode cL_law 796 = .ok (.iload_n 3, 1) := by decide +kernel
theorem dL_law_797 : decode cL_law 797 = .ok (.iconst 1, 1) := by decide +kernel
theorem dL_law_798 : decode cL_law 798 = .ok (.iadd, 1) := by decide +kernel
theorem dL_law_799 : decode cL_law 799 = .ok (.iaload, 1) := by decide +kernel
theorem dL_law_800 : decode cL_law 800 = .ok (.aload_n 0, 1) := by decide +kernel
theorem dL_law_801 : decode cL_law 801 = .ok (.iload_n 3, 1) := by decide +kernel
theorem dL_law_802 : decode cL_law 802 = .ok (.iconst 2, 1) := by decide +kernel
theorem dL_law_803 : decode cL_law 803 = .ok (.iadd, 1) := by decide +kernel
theorem dL_law_804 : decode cL_law 804 = .ok (.iaload, 1) := by decide +kernel
theorem dL_law_805 : decode cL_law 805 = .ok (.invokevirtual 96, 3) := by decide +kernel
theorem dL_law_808 : decode cL_law 808 = .ok (.if_icmp .eq 818, 3) := by decide +kernel
theorem dL_law_811 : decode cL_law 811 = .ok (.iconst 0, 1) := by decide +kernel
theorem dL_law_812 : decode cL_law 812 = .ok (.ireturn, 1) := by decide +kernel
theorem dL_law_813 : decode cL_law 813 = .ok (.aload_n 1, 1) := by decide +kernel
theorem dL_law_814 : decode cL_law 814 = .ok (.aload_n 0, 1) := by decide +kernel
theorem dL_law_815 : decode cL_law 815 = .ok (.iload_n 3, 1) := by decide +kernel
theorem dL_law_816 : decode cL_law 816 = .ok (.iconst 1, 1) := by decide +kernel
theorem dL_law_817 : decode cL_law 817 = .ok (.iadd, 1) := by decide +kernel
theorem dL_law_818 : decode cL_law 818 = .ok (.iaload, 1) := by decide +kernel
theorem dL_law_819 : decode cL_law 819 = .ok (.aload_n 0, 1) := by decide +kernel
theorem dL_law_820 : decode cL_law 820 = .ok (.iload_n 3, 1) := by decide +kernel
theorem dL_law_821 : decode cL_law 821 = .ok (.iconst 2, 1) := by decide +kernel
theorem dL_law_822 : decode cL_law 822 = .ok (.iadd, 1) := by decide +kernel
theorem dL_law_823 : decode cL_law 823 = .ok (.iaload, 1) := by decide +kernel
theorem dL_law_824 : decode cL_law 824 = .ok (.aload_n 0, 1) := by decide +kernel
theorem dL_law_825 : decode cL_law 825 = .ok (.iload_n 3, 1) := by decide +kernel
theorem dL_law_826 : decode cL_law 826 = .ok (.iconst 3, 1) := by decide +kernel
theorem dL_law_827 : decode cL_law 827 = .ok (.iadd, 1) := by decide +kernel
theorem dL_law_828 : decode cL_law 828 = .ok (.iaload, 1) := by decide +kernel
theorem dL_law_829 : decode cL_law 829 = .ok (.invokevirtual 97, 3) := by decide +kernel
theorem dL_law_832 : decode cL_law 832 = .ok (.aload_n 2, 1) := by decide +kernel
theorem dL_law_833 : decode cL_law 833 = .ok (.aload_n 0, 1) := by decide +kernel
theorem dL_law_834 : decode cL_law 834 = .ok (.iload_n 3, 1) := by decide +kernel
theorem dL_law_835 : decode cL_law 835 = .ok (.iconst 1, 1) := by decide +kernel
theorem dL_law_836 : decode cL_law 836 = .ok (.iadd, 1) := by decide +kernel
theorem dL_law_837 : decode cL_law 837 = .ok (.iaload, 1) := by decide +kernel
theorem dL_law_838 : decode cL_law 838 = .ok (.aload_n 0, 1) := by decide +kernel
theorem dL_law_839 : decode cL_law 839 = .ok (.iload_n 3, 1) := by decide +kernel
theorem dL_law_840 : decode cL_law 840 = .ok (.iconst 2, 1) := by decide +kernel
theorem dL_law_841 : decode cL_law 841 = .ok (.iadd, 1) := by decide +kernel
theorem dL_law_842 : decode cL_law 842 = .ok (.iaload, 1) := by decide +kernel
theorem dL_law_843 : decode cL_law 843 = .ok (.aload_n 0, 1) := by decide +kernel
theorem dL_law_844 : decode cL_law 844 = .ok (.iload_n 3, 1) := by decide +kernel
theorem dL_law_845 : decode cL_law 845 = .ok (.iconst 3, 1) := by decide +kernel
theorem dL_law_846 : decode cL_law 846 = .ok (.iadd, 1) := by decide +kernel
theorem dL_law_847 : decode cL_law 847 = .ok (.iaload, 1) := by decide +kernel
theorem dL_law_848 : decode cL_law 848 = .ok (.invokevirtual 101, 3) := by decide +kernel
theorem dL_law_851 : decode cL_law 851 = .ok (.if_icmp .eq 775, 3) := by decide +kernel
theorem dL_law_854 : decode cL_law 854 = .ok (.iconst 0, 1) := by decide +kernel
theorem dL_law_855 : decode cL_law 855 = .ok (.ireturn, 1) := by decide +kernel
theorem dL_law_856 : decode cL_law 856 = .ok (.aload_n 1, 1) := by decide +kernel
theorem dL_law_857 : decode cL_law 857 = .ok (.aload_n 0, 1) := by decide +kernel
theorem dL_law_858 : decode cL_law 858 = .ok (.iload_n 3, 1) := by decide +kernel
theorem dL_law_859 : decode cL_law 859 = .ok (.iconst 1, 1) := by decide +kernel
theorem dL_law_860 : decode cL_law 860 = .ok (.iadd, 1) := by decide +kernel
theorem dL_law_861 : decode cL_law 861 = .ok (.iaload, 1) := by decide +kernel
theorem dL_law_862 : decode cL_law 862 = .ok (.invokevirtual 102, 3) := by decide +kernel
theorem dL_law_865 : decode cL_law 865 = .ok (.aload_n 2, 1) := by decide +kernel
theorem dL_law_866 : decode cL_law 866 = .ok (.aload_n 0, 1) := by decide +kernel
theorem dL_law_867 : decode cL_law 867 = .ok (.iload_n 3, 1) := by decide +kernel
theorem dL_law_868 : decode cL_law 868 = .ok (.iconst 1, 1) := by decide +kernel
theorem dL_law_869 : decode cL_law 869 = .ok (.iadd, 1) := by decide +kernel
theorem dL_law_870 : decode cL_law 870 = .ok (.iaload, 1) := by decide +kernel
theorem dL_law_871 : decode cL_law 871 = .ok (.invokevirtual 105, 3) := by decide +kernel
theorem dL_law_874 : decode cL_law 874 = .ok (.if_icmp .eq 752, 3) := by decide +kernel
theorem dL_law_877 : decode cL_law 877 = .ok (.iconst 0, 1) := by decide +kernel
theorem dL_law_878 : decode cL_law 878 = .ok (.ireturn, 1) := by decide +kernel
theorem dL_law_879 : decode cL_law 879 = .ok (.aload_n 1, 1) := by decide +kernel
theorem dL_law_880 : decode cL_law 880 = .ok (.aload_n 0, 1) := by decide +kernel
theorem dL_law_881 : decode cL_law 881 = .ok (.iload_n 3, 1) := by decide +kernel
theorem dL_law_882 : decode cL_law 882 = .ok (.iconst 1, 1) := by decide +kernel
theorem dL_law_883 : decode cL_law 883 = .ok (.iadd, 1) := by decide +kernel
theorem dL_law_884 : decode cL_law 884 = .ok (.iaload, 1) := by decide +kernel
theorem dL_law_885 : decode cL_law 885 = .ok (.aload_n 0, 1) := by decide +kernel
theorem dL_law_886 : decode cL_law 886 = .ok (.iload_n 3, 1) := by decide +kernel
theorem dL_law_887 : decode cL_law 887 = .ok (.iconst 2, 1) := by decide +kernel
theorem dL_law_888 : decode cL_law 888 = .ok (.iadd, 1) := by decide +kernel
theorem dL_law_889 : decode cL_law 889 = .ok (.iaload, 1) := by decide +kernel
theorem dL_law_890 : decode cL_law 890 = .ok (.invokevirtual 106, 3) := by decide +kernel
theorem dL_law_893 : decode cL_law 893 = .ok (.aload_n 2, 1) := by decide +kernel
theorem dL_law_894 : decode cL_law 894 = .ok (.aload_n 0, 1) := by decide +kernel
theorem dL_law_895 : decode cL_law 895 = .ok (.iload_n 3, 1) := by decide +kernel
theorem dL_law_896 : decode cL_law 896 = .ok (.iconst 1, 1) := by decide +kernel
theorem dL_law_897 : decode cL_law 897 = .ok (.iadd, 1) := by decide +kernel
theorem dL_law_898 : decode cL_law 898 = .ok (.iaload, 1) := by decide +kernel
theorem dL_law_899 : decode cL_law 899 = .ok (.aload_n 0, 1) := by decide +kernel
theorem dL_law_900 : decode cL_law 900 = .ok (.iload_n 3, 1) := by decide +kernel
theorem dL_law_901 : decode cL_law 901 = .ok (.iconst 2, 1) := by decide +kernel
theorem dL_law_902 : decode cL_law 902 = .ok (.iadd, 1) := by decide +kernel
theorem dL_law_903 : decode cL_law 903 = .ok (.iaload, 1) := by decide +kernel
theorem dL_law_904 : decode cL_law 904 = .ok (.invokevirtual 109, 3) := by decide +kernel
theorem dL_law_907 : decode cL_law 907 = .ok (.if_icmp .eq 719, 3) := by decide +kernel
theorem dL_law_910 : decode cL_law 910 = .ok (.iconst 0, 1) := by decide +kernel
theorem dL_law_911 : decode cL_law 911 = .ok (.ireturn, 1) := by decide +kernel
theorem dL_law_912 : decode cL_law 912 = .ok (.aload_n 1, 1) := by decide +kernel
theorem dL_law_913 : decode cL_law 913 = .ok (.aload_n 0, 1) := by decide +kernel
theorem dL_law_914 : decode cL_law 914 = .ok (.iload_n 3, 1) := by decide +kernel
theorem dL_law_915 : decode cL_law 915 = .ok (.iconst 1, 1) := by decide +kernel
theorem dL_law_916 : decode cL_law 916 = .ok (.iadd, 1) := by decide +kernel
theorem dL_law_917 : decode cL_law 917 = .ok (.iaload, 1) := by decide +kernel
theorem dL_law_918 : decode cL_law 918 = .ok (.aload_n 0, 1) := by decide +kernel
theorem dL_law_919 : decode cL_law 919 = .ok (.iload_n 3, 1) := by decide +kernel
theorem dL_law_920 : decode cL_law 920 = .ok (.iconst 2, 1) := by decide +kernel
theorem dL_law_921 : decode cL_law 921 = .ok (.iadd, 1) := by decide +kernel
theorem dL_law_922 : decode cL_law 922 = .ok (.iaload, 1) := by decide +kernel
theorem dL_law_923 : decode cL_law 923 = .ok (.aload_n 0, 1) := by decide +kernel
theorem dL_law_924 : decode cL_law 924 = .ok (.iload_n 3, 1) := by decide +kernel
theorem dL_law_925 : decode cL_law 925 = .ok (.iconst 3, 1) := by decide +kernel
theorem dL_law_926 : decode cL_law 926 = .ok (.iadd, 1) := by decide +kernel
theorem dL_law_927 : decode cL_law 927 = .ok (.iaload, 1) := by decide +kernel
theorem dL_law_928 : decode cL_law 928 = .ok (.invokevirtual 110, 3) := by decide +kernel
theorem dL_law_931 : decode cL_law 931 = .ok (.aload_n 2, 1) := by decide +kernel
theorem dL_law_932 : decode cL_law 932 = .ok (.aload_n 0, 1) := by decide +kernel
theorem dL_law_933 : decode cL_law 933 = .ok (.iload_n 3, 1) := by decide +kernel
theorem dL_law_934 : decode cL_law 934 = .ok (.iconst 1, 1) := by decide +kernel
theorem dL_law_935 : decode cL_law 935 = .ok (.iadd, 1) := by decide +kernel
theorem dL_law_936 : decode cL_law 936 = .ok (.iaload, 1) := by decide +kernel
theorem dL_law_937 : decode cL_law 937 = .ok (.aload_n 0, 1) := by decide +kernel
theorem dL_law_938 : decode cL_law 938 = .ok (.iload_n 3, 1) := by decide +kernel
theorem dL_law_939 : decode cL_law 939 = .ok (.iconst 2, 1) := by decide +kernel
theorem dL_law_940 : decode cL_law 940 = .ok (.iadd, 1) := by decide +kernel
theorem dL_law_941 : decode cL_law 941 = .ok (.iaload, 1) := by decide +kernel
theorem dL_law_942 : decode cL_law 942 = .ok (.aload_n 0, 1) := by decide +kernel
theorem dL_law_943 : decode cL_law 943 = .ok (.iload_n 3, 1) := by decide +kernel
theorem dL_law_944 : decode cL_law 944 = .ok (.iconst 3, 1) := by decide +kernel
theorem dL_law_945 : decode cL_law 945 = .ok (.iadd, 1) := by decide +kernel
theorem dL_law_946 : decode cL_law 946 = .ok (.iaload, 1) := by decide +kernel
theorem dL_law_947 : decode cL_law 947 = .ok (.invokevirtual 113, 3) := by decide +kernel
theorem dL_law_950 : decode cL_law 950 = .ok (.if_icmp .eq 676, 3) := by decide +kernel
theorem dL_law_953 : decode cL_law 953 = .ok (.iconst 0, 1) := by decide +kernel
theorem dL_law_954 : decode cL_law 954 = .ok (.ireturn, 1) := by decide +kernel
theorem dL_law_955 : decode cL_law 955 = .ok (.aload_n 1, 1) := by decide +kernel
theorem dL_law_956 : decode cL_law 956 = .ok (.aload_n 0, 1) := by decide +kernel
theorem dL_law_957 : decode cL_law 957 = .ok (.iload_n 3, 1) := by decide +kernel
theorem dL_law_958 : decode cL_law 958 = .ok (.iconst 1, 1) := by decide +kernel
theorem dL_law_959 : decode cL_law 959 = .ok (.iadd, 1) := by decide +kernel
theorem dL_law_960 : decode cL_law 960 = .ok (.iaload, 1) := by decide +kernel
theorem dL_law_961 : decode cL_law 961 = .ok (.aload_n 0, 1) := by decide +kernel
theorem dL_law_962 : decode cL_law 962 = .ok (.iload_n 3, 1) := by decide +kernel
theorem dL_law_963 : decode cL_law 963 = .ok (.iconst 2, 1) := by decide +kernel
theorem dL_law_964 : decode cL_law 964 = .ok (.iadd, 1) := by decide +kernel
theorem dL_law_965 : decode cL_law 965 = .ok (.iaload, 1) := by decide +kernel
theorem dL_law_966 : decode cL_law 966 = .ok (.aload_n 0, 1) := by decide +kernel
theorem dL_law_967 : decode cL_law 967 = .ok (.iload_n 3, 1) := by decide +kernel
theorem dL_law_968 : decode cL_law 968 = .ok (.iconst 3, 1) := by decide +kernel
theorem dL_law_969 : decode cL_law 969 = .ok (.iadd, 1) := by decide +kernel
theorem dL_law_970 : decode cL_law 970 = .ok (.iaload, 1) := by decide +kernel
theorem dL_law_971 : decode cL_law 971 = .ok (.invokevirtual 114, 3) := by decide +kernel
theorem dL_law_974 : decode cL_law 974 = .ok (.aload_n 2, 1) := by decide +kernel
theorem dL_law_975 : decode cL_law 975 = .ok (.aload_n 0, 1) := by decide +kernel
theorem dL_law_976 : decode cL_law 976 = .ok (.iload_n 3, 1) := by decide +kernel
theorem dL_law_977 : decode cL_law 977 = .ok (.iconst 1, 1) := by decide +kernel
theorem dL_law_978 : decode cL_law 978 = .ok (.iadd, 1) := by decide +kernel
theorem dL_law_979 : decode cL_law 979 = .ok (.iaload, 1) := by decide +kernel
theorem dL_law_980 : decode cL_law 980 = .ok (.aload_n 0, 1) := by decide +kernel
theorem dL_law_981 : decode cL_law 981 = .ok (.iload_n 3, 1) := by decide +kernel
theorem dL_law_982 : decode cL_law 982 = .ok (.iconst 2, 1) := by decide +kernel
theorem dL_law_983 : decode cL_law 983 = .ok (.iadd, 1) := by decide +kernel
theorem dL_law_984 : decode cL_law 984 = .ok (.iaload, 1) := by decide +kernel
theorem dL_law_985 : decode cL_law 985 = .ok (.aload_n 0, 1) := by decide +kernel
theorem dL_law_986 : decode cL_law 986 = .ok (.iload_n 3, 1) := by decide +kernel
theorem dL_law_987 : decode cL_law 987 = .ok (.iconst 3, 1) := by decide +kernel
theorem dL_law_988 : decode cL_law 988 = .ok (.iadd, 1) := by decide +kernel
theorem dL_law_989 : decode cL_law 989 = .ok (.iaload, 1) := by decide +kernel
theorem dL_law_990 : decode cL_law 990 = .ok (.invokevirtual 117, 3) := by decide +kernel
theorem dL_law_993 : decode cL_law 993 = .ok (.if_icmp .eq 633, 3) := by decide +kernel
theorem dL_law_996 : decode cL_law 996 = .ok (.iconst 0, 1) := by decide +kernel
theorem dL_law_997 : decode cL_law 997 = .ok (.ireturn, 1) := by decide +kernel
theorem dL_law_998 : decode cL_law 998 = .ok (.aload_n 1, 1) := by decide +kernel
theorem dL_law_999 : decode cL_law 999 = .ok (.aload_n 0, 1) := by decide +kernel
theorem dL_law_1000 : decode cL_law 1000 = .ok (.iload_n 3, 1) := by decide +kernel
theorem dL_law_1001 : decode cL_law 1001 = .ok (.iconst 1, 1) := by decide +kernel
theorem dL_law_1002 : decode cL_law 1002 = .ok (.iadd, 1) := by decide +kernel
theorem dL_law_1003 : decode cL_law 1003 = .ok (.iaload, 1) := by decide +kernel
theorem dL_law_1004 : decode cL_law 1004 = .ok (.aload_n 0, 1) := by decide +kernel
theorem dL_law_1005 : decode cL_law 1005 = .ok (.iload_n 3, 1) := by decide +kernel
theorem dL_law_1006 : decode cL_law 1006 = .ok (.iconst 2, 1) := by decide +kernel
theorem dL_law_1007 : decode cL_law 1007 = .ok (.iadd, 1) := by decide +kernel
theorem dL_law_1008 : decode cL_law 1008 = .ok (.iaload, 1) := by decide +kernel
theorem dL_law_1009 : decode cL_law 1009 = .ok (.aload_n 0, 1) := by decide +kernel
theorem dL_law_1010 : decode cL_law 1010 = .ok (.iload_n 3, 1) := by decide +kernel
theorem dL_law_1011 : decode cL_law 1011 = .ok (.iconst 3, 1) := by decide +kernel
theorem dL_law_1012 : decode cL_law 1012 = .ok (.iadd, 1) := by decide +kernel
theorem dL_law_1013 : decode cL_law 1013 = .ok (.iaload, 1) := by decide +kernel
theorem dL_law_1014 : decode cL_law 1014 = .ok (.invokevirtual 118, 3) := by decide +kernel
theorem dL_law_1017 : decode cL_law 1017 = .ok (.aload_n 2, 1) := by decide +kernel
theorem dL_law_1018 : decode cL_law 1018 = .ok (.aload_n 0, 1) := by decide +kernel
theorem dL_law_1019 : decode cL_law 1019 = .ok (.iload_n 3, 1) := by decide +kernel
theorem dL_law_1020 : decode cL_law 1020 = .ok (.iconst 1, 1) := by decide +kernel
theorem dL_law_1021 : decode cL_law 1021 = .ok (.iadd, 1) := by decide +kernel
theorem dL_law_1022 : decode cL_law 1022 = .ok (.iaload, 1) := by decide +kernel
theorem dL_law_1023 : decode cL_law 1023 = .ok (.aload_n 0, 1) := by decide +kernel
theorem dL_law_1024 : decode cL_law 1024 = .ok (.iload_n 3, 1) := by decide +kernel
theorem dL_law_1025 : decode cL_law 1025 = .ok (.iconst 2, 1) := by decide +kernel
theorem dL_law_1026 : decode cL_law 1026 = .ok (.iadd, 1) := by decide +kernel
theorem dL_law_1027 : decode cL_law 1027 = .ok (.iaload, 1) := by decide +kernel
theorem dL_law_1028 : decode cL_law 1028 = .ok (.aload_n 0, 1) := by decide +kernel
theorem dL_law_1029 : decode cL_law 1029 = .ok (.iload_n 3, 1) := by decide +kernel
theorem dL_law_1030 : decode cL_law 1030 = .ok (.iconst 3, 1) := by decide +kernel
