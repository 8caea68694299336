theorem dX11_drown_19 : decode cX11_drown 19 = .ok (.istore_n 2, 1) := by decide +kernel
theorem dX11_drown_20 : decode cX11_drown 20 = .ok (.iconst 0, 1) := by decide +kernel
theorem dX11_drown_21 : decode cX11_drown 21 = .ok (.istore_n 3, 1) := by decide +kernel
theorem dX11_drown_22 : decode cX11_drown 22 = .ok (.iload_n 3, 1) := by decide +kernel
theorem dX11_drown_23 : decode cX11_drown 23 = .ok (.aload_n 0, 1) := by decide +kernel
theorem dX11_drown_24 : decode cX11_drown 24 = .ok (.getfield 73, 3) := by decide +kernel
theorem dX11_drown_27 : decode cX11_drown 27 = .ok (.aload_n 0, 1) := by decide +kernel
theorem dX11_drown_28 : decode cX11_drown 28 = .ok (.getfield 48, 3) := by decide +kernel
theorem dX11_drown_31 : decode cX11_drown 31 = .ok (.iaload, 1) := by decide +kernel
theorem dX11_drown_32 : decode cX11_drown 32 = .ok (.if_icmp .ge 24, 3) := by decide +kernel
theorem dX11_drown_35 : decode cX11_drown 35 = .ok (.aload_n 0, 1) := by decide +kernel
theorem dX11_drown_36 : decode cX11_drown 36 = .ok (.iload_n 1, 1) := by decide +kernel
theorem dX11_drown_37 : decode cX11_drown 37 = .ok (.iload_n 3, 1) := by decide +kernel
theorem dX11_drown_38 : decode cX11_drown 38 = .ok (.invokevirtual 470, 3) := by decide +kernel
theorem dX11_drown_41 : decode cX11_drown 41 = .ok (.ifCond .eq 9, 3) := by decide +kernel
theorem dX11_drown_44 : decode cX11_drown 44 = .ok (.aload_n 0, 1) := by decide +kernel
theorem dX11_drown_45 : decode cX11_drown 45 = .ok (.iload_n 1, 1) := by decide +kernel
theorem dX11_drown_46 : decode cX11_drown 46 = .ok (.iload_n 3, 1) := by decide +kernel
theorem dX11_drown_47 : decode cX11_drown 47 = .ok (.invokevirtual 527, 3) := by decide +kernel
theorem dX11_drown_50 : decode cX11_drown 50 = .ok (.iinc 3 1, 3) := by decide +kernel
theorem dX11_drown_53 : decode cX11_drown 53 = .ok (.goto (-31), 3) := by decide +kernel
theorem dX11_drown_56 : decode cX11_drown 56 = .ok (.iconst 0, 1) := by decide +kernel
theorem dX11_drown_57 : decode cX11_drown 57 = .ok (.istore_n 3, 1) := by decide +kernel
theorem dX11_drown_58 : decode cX11_drown 58 = .ok (.iload_n 3, 1) := by decide +kernel
theorem dX11_drown_59 : decode cX11_drown 59 = .ok (.bipush 26, 2) := by decide +kernel
theorem dX11_drown_61 : decode cX11_drown 61 = .ok (.if_icmp .ge 21, 3) := by decide +kernel
theorem dX11_drown_64 : decode cX11_drown 64 = .ok (.aload_n 0, 1) := by decide +kernel
theorem dX11_drown_65 : decode cX11_drown 65 = .ok (.getfield 177, 3) := by decide +kernel
theorem dX11_drown_68 : decode cX11_drown 68 = .ok (.bipush 26, 2) := by decide +kernel
theorem dX11_drown_70 : decode cX11_drown 70 = .ok (.iload_n 1, 1) := by decide +kernel
theorem dX11_drown_71 : decode cX11_drown 71 = .ok (.imul, 1) := by decide +kernel
theorem dX11_drown_72 : decode cX11_drown 72 = .ok (.iload_n 3, 1) := by decide +kernel
theorem dX11_drown_73 : decode cX11_drown 73 = .ok (.iadd, 1) := by decide +kernel
theorem dX11_drown_74 : decode cX11_drown 74 = .ok (.iconst 0, 1) := by decide +kernel
theorem dX11_drown_75 : decode cX11_drown 75 = .ok (.iastore, 1) := by decide +kernel
theorem dX11_drown_76 : decode cX11_drown 76 = .ok (.iinc 3 1, 3) := by decide +kernel
theorem dX11_drown_79 : decode cX11_drown 79 = .ok (.goto (-21), 3) := by decide +kernel
theorem dX11_drown_82 : decode cX11_drown 82 = .ok (.aload_n 0, 1) := by decide +kernel
theorem dX11_drown_83 : decode cX11_drown 83 = .ok (.dup, 1) := by decide +kernel
theorem dX11_drown_84 : decode cX11_drown 84 = .ok (.getfield 180, 3) := by decide +kernel
theorem dX11_drown_87 : decode cX11_drown 87 = .ok (.iload_n 2, 1) := by decide +kernel
theorem dX11_drown_88 : decode cX11_drown 88 = .ok (.iadd, 1) := by decide +kernel
theorem dX11_drown_89 : decode cX11_drown 89 = .ok (.putfield 180, 3) := by decide +kernel
theorem dX11_drown_92 : decode cX11_drown 92 = .ok (.aload_n 0, 1) := by decide +kernel
theorem dX11_drown_93 : decode cX11_drown 93 = .ok (.bipush 6, 2) := by decide +kernel
theorem dX11_drown_95 : decode cX11_drown 95 = .ok (.iload_n 1, 1) := by decide +kernel
theorem dX11_drown_96 : decode cX11_drown 96 = .ok (.iconst (-1), 1) := by decide +kernel
theorem dX11_drown_97 : decode cX11_drown 97 = .ok (.iload_n 2, 1) := by decide +kernel
theorem dX11_drown_98 : decode cX11_drown 98 = .ok (.invokevirtual 517, 3) := by decide +kernel
theorem dX11_drown_101 : decode cX11_drown 101 = .ok (.iload_n 2, 1) := by decide +kernel
theorem dX11_drown_102 : decode cX11_drown 102 = .ok (.ireturn, 1) := by decide +kernel
theorem dX11_melt_0 : decode cX11_melt 0 = .ok (.aload_n 0, 1) := by decide +kernel
theorem dX11_melt_1 : decode cX11_melt 1 = .ok (.iload_n 1, 1) := by decide +kernel
theorem dX11_melt_2 : decode cX11_melt 2 = .ok (.invokevirtual 483, 3) := by decide +kernel
theorem dX11_melt_5 : decode cX11_melt 5 = .ok (.ifCond .eq 29, 3) := by decide +kernel
theorem dX11_melt_8 : decode cX11_melt 8 = .ok (.aload_n 0, 1) := by decide +kernel
theorem dX11_melt_9 : decode cX11_melt 9 = .ok (.iload_n 2, 1) := by decide +kernel
theorem dX11_melt_10 : decode cX11_melt 10 = .ok (.invokevirtual 467, 3) := by decide +kernel
theorem dX11_melt_13 : decode cX11_melt 13 = .ok (.ifCond .eq 21, 3) := by decide +kernel
theorem dX11_melt_16 : decode cX11_melt 16 = .ok (.aload_n 0, 1) := by decide +kernel
theorem dX11_melt_17 : decode cX11_melt 17 = .ok (.iload_n 1, 1) := by decide +kernel
theorem dX11_melt_18 : decode cX11_melt 18 = .ok (.iload_n 2, 1) := by decide +kernel
theorem dX11_melt_19 : decode cX11_melt 19 = .ok (.invokevirtual 470, 3) := by decide +kernel
theorem dX11_melt_22 : decode cX11_melt 22 = .ok (.ifCond .eq 12, 3) := by decide +kernel
theorem dX11_melt_25 : decode cX11_melt 25 = .ok (.aload_n 0, 1) := by decide +kernel
theorem dX11_melt_26 : decode cX11_melt 26 = .ok (.getfield 195, 3) := by decide +kernel
theorem dX11_melt_29 : decode cX11_melt 29 = .ok (.bipush 30, 2) := by decide +kernel
theorem dX11_melt_31 : decode cX11_melt 31 = .ok (.if_icmp .ne 9, 3) := by decide +kernel
theorem dX11_melt_34 : decode cX11_melt 34 = .ok (.aload_n 0, 1) := by decide +kernel
theorem dX11_melt_35 : decode cX11_melt 35 = .ok (.iconst 3, 1) := by decide +kernel
theorem dX11_melt_36 : decode cX11_melt 36 = .ok (.invokevirtual 234, 3) := by decide +kernel
theorem dX11_melt_39 : decode cX11_melt 39 = .ok (.ireturn, 1) := by decide +kernel
theorem dX11_melt_40 : decode cX11_melt 40 = .ok (.aload_n 0, 1) := by decide +kernel
theorem dX11_melt_41 : decode cX11_melt 41 = .ok (.iload_n 1, 1) := by decide +kernel
theorem dX11_melt_42 : decode cX11_melt 42 = .ok (.iload_n 2, 1) := by decide +kernel
theorem dX11_melt_43 : decode cX11_melt 43 = .ok (.invokevirtual 527, 3) := by decide +kernel
theorem dX11_melt_46 : decode cX11_melt 46 = .ok (.aload_n 0, 1) := by decide +kernel
theorem dX11_melt_47 : decode cX11_melt 47 = .ok (.getfield 198, 3) := by decide +kernel
theorem dX11_melt_50 : decode cX11_melt 50 = .ok (.aload_n 0, 1) := by decide +kernel
theorem dX11_melt_51 : decode cX11_melt 51 = .ok (.getfield 195, 3) := by decide +kernel
theorem dX11_melt_54 : decode cX11_melt 54 = .ok (.aload_n 0, 1) := by decide +kernel
theorem dX11_melt_55 : decode cX11_melt 55 = .ok (.iload_n 2, 1) := by decide +kernel
theorem dX11_melt_56 : decode cX11_melt 56 = .ok (.invokevirtual 439, 3) := by decide +kernel
theorem dX11_melt_59 : decode cX11_melt 59 = .ok (.iastore, 1) := by decide +kernel
theorem dX11_melt_60 : decode cX11_melt 60 = .ok (.aload_n 0, 1) := by decide +kernel
theorem dX11_melt_61 : decode cX11_melt 61 = .ok (.dup, 1) := by decide +kernel
theorem dX11_melt_62 : decode cX11_melt 62 = .ok (.getfield 195, 3) := by decide +kernel
theorem dX11_melt_65 : decode cX11_melt 65 = .ok (.iconst 1, 1) := by decide +kernel
theorem dX11_melt_66 : decode cX11_melt 66 = .ok (.iadd, 1) := by decide +kernel
theorem dX11_melt_67 : decode cX11_melt 67 = .ok (.putfield 195, 3) := by decide +kernel
theorem dX11_melt_70 : decode cX11_melt 70 = .ok (.aload_n 0, 1) := by decide +kernel
theorem dX11_melt_71 : decode cX11_melt 71 = .ok (.bipush 7, 2) := by decide +kernel
theorem dX11_melt_73 : decode cX11_melt 73 = .ok (.iload_n 1, 1) := by decide +kernel
theorem dX11_melt_74 : decode cX11_melt 74 = .ok (.iconst (-1), 1) := by decide +kernel
theorem dX11_melt_75 : decode cX11_melt 75 = .ok (.aload_n 0, 1) := by decide +kernel
theorem dX11_melt_76 : decode cX11_melt 76 = .ok (.iload_n 2, 1) := by decide +kernel
theorem dX11_melt_77 : decode cX11_melt 77 = .ok (.invokevirtual 439, 3) := by decide +kernel
theorem dX11_melt_80 : decode cX11_melt 80 = .ok (.invokevirtual 517, 3) := by decide +kernel
theorem dX11_melt_83 : decode cX11_melt 83 = .ok (.aload_n 0, 1) := by decide +kernel
theorem dX11_melt_84 : decode cX11_melt 84 = .ok (.getfield 195, 3) := by decide +kernel
theorem dX11_melt_87 : decode cX11_melt 87 = .ok (.ireturn, 1) := by decide +kernel
theorem dX11_empties_0 : decode cX11_empties 0 = .ok (.iconst 0, 1) := by decide +kernel
theorem dX11_empties_1 : decode cX11_empties 1 = .ok (.istore_n 2, 1) := by decide +kernel
theorem dX11_empties_2 : decode cX11_empties 2 = .ok (.iload_n 2, 1) := by decide +kernel
theorem dX11_empties_3 : decode cX11_empties 3 = .ok (.bipush 26, 2) := by decide +kernel
theorem dX11_empties_5 : decode cX11_empties 5 = .ok (.if_icmp .ge 45, 3) := by decide +kernel
theorem dX11_empties_8 : decode cX11_empties 8 = .ok (.aload_n 0, 1) := by decide +kernel
theorem dX11_empties_9 : decode cX11_empties 9 = .ok (.getfield 177, 3) := by decide +kernel
theorem dX11_empties_12 : decode cX11_empties 12 = .ok (.sipush 208, 3) := by decide +kernel
theorem dX11_empties_15 : decode cX11_empties 15 = .ok (.iload_n 2, 1) := by decide +kernel
theorem dX11_empties_16 : decode cX11_empties 16 = .ok (.iadd, 1) := by decide +kernel
theorem dX11_empties_17 : decode cX11_empties 17 = .ok (.dup2, 1) := by decide +kernel
theorem dX11_empties_18 : decode cX11_empties 18 = .ok (.iaload, 1) := by decide +kernel
theorem dX11_empties_19 : decode cX11_empties 19 = .ok (.aload_n 0, 1) := by decide +kernel
theorem dX11_empties_20 : decode cX11_empties 20 = .ok (.getfield 177, 3) := by decide +kernel
theorem dX11_empties_23 : decode cX11_empties 23 = .ok (.bipush 26, 2) := by decide +kernel
theorem dX11_empties_25 : decode cX11_empties 25 = .ok (.iload_n 1, 1) := by decide +kernel
theorem dX11_empties_26 : decode cX11_empties 26 = .ok (.imul, 1) := by decide +kernel
theorem dX11_empties_27 : decode cX11_empties 27 = .ok (.iload_n 2, 1) := by decide +kernel
theorem dX11_empties_28 : decode cX11_empties 28 = .ok (.iadd, 1) := by decide +kernel
theorem dX11_empties_29 : decode cX11_empties 29 = .ok (.iaload, 1) := by decide +kernel
theorem dX11_empties_30 : decode cX11_empties 30 = .ok (.iadd, 1) := by decide +kernel
theorem dX11_empties_31 : decode cX11_empties 31 = .ok (.iastore, 1) := by decide +kernel
theorem dX11_empties_32 : decode cX11_empties 32 = .ok (.aload_n 0, 1) := by decide +kernel
theorem dX11_empties_33 : decode cX11_empties 33 = .ok (.getfield 177, 3) := by decide +kernel
theorem dX11_empties_36 : decode cX11_empties 36 = .ok (.bipush 26, 2) := by decide +kernel
theorem dX11_empties_38 : decode cX11_empties 38 = .ok (.iload_n 1, 1) := by decide +kernel
theorem dX11_empties_39 : decode cX11_empties 39 = .ok (.imul, 1) := by decide +kernel
theorem dX11_empties_40 : decode cX11_empties 40 = .ok (.iload_n 2, 1) := by decide +kernel
theorem dX11_empties_41 : decode cX11_empties 41 = .ok (.iadd, 1) := by decide +kernel
theorem dX11_empties_42 : decode cX11_empties 42 = .ok (.iconst 0, 1) := by decide +kernel
theorem dX11_empties_43 : decode cX11_empties 43 = .ok (.iastore, 1) := by decide +kernel
theorem dX11_empties_44 : decode cX11_empties 44 = .ok (.iinc 2 1, 3) := by decide +kernel
theorem dX11_empties_47 : decode cX11_empties 47 = .ok (.goto (-45), 3) := by decide +kernel
theorem dX11_empties_50 : decode cX11_empties 50 = .ok (.return_, 1) := by decide +kernel
theorem dX11_heir_0 : decode cX11_heir 0 = .ok (.aload_n 0, 1) := by decide +kernel
theorem dX11_heir_1 : decode cX11_heir 1 = .ok (.iload_n 1, 1) := by decide +kernel
theorem dX11_heir_2 : decode cX11_heir 2 = .ok (.invokevirtual 483, 3) := by decide +kernel
theorem dX11_heir_5 : decode cX11_heir 5 = .ok (.ifCond .eq 16, 3) := by decide +kernel
theorem dX11_heir_8 : decode cX11_heir 8 = .ok (.aload_n 0, 1) := by decide +kernel
theorem dX11_heir_9 : decode cX11_heir 9 = .ok (.iload_n 2, 1) := by decide +kernel
theorem dX11_heir_10 : decode cX11_heir 10 = .ok (.invokevirtual 483, 3) := by decide +kernel
theorem dX11_heir_13 : decode cX11_heir 13 = .ok (.ifCond .eq 8, 3) := by decide +kernel
theorem dX11_heir_16 : decode cX11_heir 16 = .ok (.iload_n 1, 1) := by decide +kernel
theorem dX11_heir_17 : decode cX11_heir 17 = .ok (.iload_n 2, 1) := by decide +kernel
theorem dX11_heir_18 : decode cX11_heir 18 = .ok (.if_icmp .ne 9, 3) := by decide +kernel
theorem dX11_heir_21 : decode cX11_heir 21 = .ok (.aload_n 0, 1) := by decide +kernel
theorem dX11_heir_22 : decode cX11_heir 22 = .ok (.iconst 3, 1) := by decide +kernel
theorem dX11_heir_23 : decode cX11_heir 23 = .ok (.invokevirtual 234, 3) := by decide +kernel
theorem dX11_heir_26 : decode cX11_heir 26 = .ok (.ireturn, 1) := by decide +kernel
theorem dX11_heir_27 : decode cX11_heir 27 = .ok (.aload_n 0, 1) := by decide +kernel
theorem dX11_heir_28 : decode cX11_heir 28 = .ok (.iload_n 2, 1) := by decide +kernel
theorem dX11_heir_29 : decode cX11_heir 29 = .ok (.invokevirtual 486, 3) := by decide +kernel
theorem dX11_heir_32 : decode cX11_heir 32 = .ok (.aload_n 0, 1) := by decide +kernel
theorem dX11_heir_33 : decode cX11_heir 33 = .ok (.iload_n 2, 1) := by decide +kernel
theorem dX11_heir_34 : decode cX11_heir 34 = .ok (.invokevirtual 489, 3) := by decide +kernel
theorem dX11_heir_37 : decode cX11_heir 37 = .ok (.isub, 1) := by decide +kernel
theorem dX11_heir_38 : decode cX11_heir 38 = .ok (.istore_n 3, 1) := by decide +kernel
theorem dX11_heir_39 : decode cX11_heir 39 = .ok (.aload_n 0, 1) := by decide +kernel
theorem dX11_heir_40 : decode cX11_heir 40 = .ok (.aload_n 0, 1) := by decide +kernel
theorem dX11_heir_41 : decode cX11_heir 41 = .ok (.getfield 174, 3) := by decide +kernel
theorem dX11_heir_44 : decode cX11_heir 44 = .ok (.iload_n 1, 1) := by decide +kernel
theorem dX11_heir_45 : decode cX11_heir 45 = .ok (.iaload, 1) := by decide +kernel
theorem dX11_heir_46 : decode cX11_heir 46 = .ok (.aload_n 0, 1) := by decide +kernel
theorem dX11_heir_47 : decode cX11_heir 47 = .ok (.getfield 174, 3) := by decide +kernel
theorem dX11_heir_50 : decode cX11_heir 50 = .ok (.iload_n 2, 1) := by decide +kernel
theorem dX11_heir_51 : decode cX11_heir 51 = .ok (.iaload, 1) := by decide +kernel
theorem dX11_heir_52 : decode cX11_heir 52 = .ok (.iconst (-1), 1) := by decide +kernel
theorem dX11_heir_53 : decode cX11_heir 53 = .ok (.ixor, 1) := by decide +kernel
theorem dX11_heir_54 : decode cX11_heir 54 = .ok (.iand, 1) := by decide +kernel
theorem dX11_heir_55 : decode cX11_heir 55 = .ok (.iload_n 3, 1) := by decide +kernel
theorem dX11_heir_56 : decode cX11_heir 56 = .ok (.ifCond .ge 7, 3) := by decide +kernel
theorem dX11_heir_59 : decode cX11_heir 59 = .ok (.iconst 0, 1) := by decide +kernel
theorem dX11_heir_60 : decode cX11_heir 60 = .ok (.goto 4, 3) := by decide +kernel
theorem dX11_heir_63 : decode cX11_heir 63 = .ok (.iload_n 3, 1) := by decide +kernel
theorem dX11_heir_64 : decode cX11_heir 64 = .ok (.invokevirtual 495, 3) := by decide +kernel
theorem dX11_heir_67 : decode cX11_heir 67 = .ok (.istore 4, 2) := by decide +kernel
theorem dX11_heir_69 : decode cX11_heir 69 = .ok (.iconst 0, 1) := by decide +kernel
theorem dX11_heir_70 : decode cX11_heir 70 = .ok (.istore 5, 2) := by decide +kernel
theorem dX11_heir_72 : decode cX11_heir 72 = .ok (.iload 5, 2) := by decide +kernel
theorem dX11_heir_74 : decode cX11_heir 74 = .ok (.aload_n 0, 1) := by decide +kernel
theorem dX11_heir_75 : decode cX11_heir 75 = .ok (.getfield 73, 3) := by decide +kernel
theorem dX11_heir_78 : decode cX11_heir 78 = .ok (.aload_n 0, 1) := by decide +kernel
theorem dX11_heir_79 : decode cX11_heir 79 = .ok (.getfield 48, 3) := by decide +kernel
theorem dX11_heir_82 : decode cX11_heir 82 = .ok (.iaload, 1) := by decide +kernel
theorem dX11_heir_83 : decode cX11_heir 83 = .ok (.if_icmp .ge 58, 3) := by decide +kernel
theorem dX11_heir_86 : decode cX11_heir 86 = .ok (.aload_n 0, 1) := by decide +kernel
theorem dX11_heir_87 : decode cX11_heir 87 = .ok (.iload_n 1, 1) := by decide +kernel
theorem dX11_heir_88 : decode cX11_heir 88 = .ok (.iload 5, 2) := by decide +kernel
theorem dX11_heir_90 : decode cX11_heir 90 = .ok (.invokevirtual 470, 3) := by decide +kernel
theorem dX11_heir_93 : decode cX11_heir 93 = .ok (.ifCond .ne 6, 3) := by decide +kernel
theorem dX11_heir_96 : decode cX11_heir 96 = .ok (.goto 39, 3) := by decide +kernel
theorem dX11_heir_99 : decode cX11_heir 99 = .ok (.aload_n 0, 1) := by decide +kernel
theorem dX11_heir_100 : decode cX11_heir 100 = .ok (.iload_n 1, 1) := by decide +kernel
theorem dX11_heir_101 : decode cX11_heir 101 = .ok (.iload 5, 2) := by decide +kernel
theorem dX11_heir_103 : decode cX11_heir 103 = .ok (.invokevirtual 527, 3) := by decide +kernel
theorem dX11_heir_106 : decode cX11_heir 106 = .ok (.iload 4, 2) := by decide +kernel
theorem dX11_heir_108 : decode cX11_heir 108 = .ok (.iload 5, 2) := by decide +kernel
theorem dX11_heir_110 : decode cX11_heir 110 = .ok (.ishr, 1) := by decide +kernel
theorem dX11_heir_111 : decode cX11_heir 111 = .ok (.iconst 1, 1) := by decide +kernel
theorem dX11_heir_112 : decode cX11_heir 112 = .ok (.iand, 1) := by decide +kernel
theorem dX11_heir_113 : decode cX11_heir 113 = .ok (.iconst 1, 1) := by decide +kernel
theorem dX11_heir_114 : decode cX11_heir 114 = .ok (.if_icmp .ne 13, 3) := by decide +kernel
theorem dX11_heir_117 : decode cX11_heir 117 = .ok (.aload_n 0, 1) := by decide +kernel
theorem dX11_heir_118 : decode cX11_heir 118 = .ok (.iload_n 2, 1) := by decide +kernel
theorem dX11_heir_119 : decode cX11_heir 119 = .ok (.iload 5, 2) := by decide +kernel
theorem dX11_heir_121 : decode cX11_heir 121 = .ok (.invokevirtual 514, 3) := by decide +kernel
theorem dX11_heir_124 : decode cX11_heir 124 = .ok (.goto 11, 3) := by decide +kernel
theorem dX11_heir_127 : decode cX11_heir 127 = .ok (.aload_n 0, 1) := by decide +kernel
theorem dX11_heir_128 : decode cX11_heir 128 = .ok (.iload 5, 2) := by decide +kernel
theorem dX11_heir_130 : decode cX11_heir 130 = .ok (.bipush 8, 2) := by decide +kernel
theorem dX11_heir_132 : decode cX11_heir 132 = .ok (.invokevirtual 530, 3) := by decide +kernel
theorem dX11_heir_135 : decode cX11_heir 135 = .ok (.iinc 5 1, 3) := by decide +kernel
theorem dX11_heir_138 : decode cX11_heir 138 = .ok (.goto (-66), 3) := by decide +kernel
theorem dX11_heir_141 : decode cX11_heir 141 = .ok (.aload_n 0, 1) := by decide +kernel
theorem dX11_heir_142 : decode cX11_heir 142 = .ok (.iload_n 1, 1) := by decide +kernel
theorem dX11_heir_143 : decode cX11_heir 143 = .ok (.invokevirtual 542, 3) := by decide +kernel
theorem dX11_heir_146 : decode cX11_heir 146 = .ok (.aload_n 0, 1) := by decide +kernel
theorem dX11_heir_147 : decode cX11_heir 147 = .ok (.bipush 8, 2) := by decide +kernel
theorem dX11_heir_149 : decode cX11_heir 149 = .ok (.iload_n 1, 1) := by decide +kernel
theorem dX11_heir_150 : decode cX11_heir 150 = .ok (.iload_n 2, 1) := by decide +kernel
theorem dX11_heir_151 : decode cX11_heir 151 = .ok (.aload_n 0, 1) := by decide +kernel
theorem dX11_heir_152 : decode cX11_heir 152 = .ok (.iload 4, 2) := by decide +kernel
theorem dX11_heir_154 : decode cX11_heir 154 = .ok (.iconst 0, 1) := by decide +kernel
theorem dX11_heir_155 : decode cX11_heir 155 = .ok (.invokevirtual 442, 3) := by decide +kernel
theorem dX11_heir_158 : decode cX11_heir 158 = .ok (.invokevirtual 517, 3) := by decide +kernel
theorem dX11_heir_161 : decode cX11_heir 161 = .ok (.iload 4, 2) := by decide +kernel
theorem dX11_heir_163 : decode cX11_heir 163 = .ok (.ireturn, 1) := by decide +kernel
theorem dX11_yearOf_0 : decode cX11_yearOf 0 = .ok (.aload_n 0, 1) := by decide +kernel
theorem dX11_yearOf_1 : decode cX11_yearOf 1 = .ok (.iload_n 1, 1) := by decide +kernel
theorem dX11_yearOf_2 : decode cX11_yearOf 2 = .ok (.invokevirtual 489, 3) := by decide +kernel
theorem dX11_yearOf_5 : decode cX11_yearOf 5 = .ok (.aload_n 0, 1) := by decide +kernel
theorem dX11_yearOf_6 : decode cX11_yearOf 6 = .ok (.iload_n 1, 1) := by decide +kernel
theorem dX11_yearOf_7 : decode cX11_yearOf 7 = .ok (.invokevirtual 486, 3) := by decide +kernel
theorem dX11_yearOf_10 : decode cX11_yearOf 10 = .ok (.if_icmp .gt 5, 3) := by decide +kernel
theorem dX11_yearOf_13 : decode cX11_yearOf 13 = .ok (.iconst 0, 1) := by decide +kernel
theorem dX11_yearOf_14 : decode cX11_yearOf 14 = .ok (.ireturn, 1) := by decide +kernel
theorem dX11_yearOf_15 : decode cX11_yearOf 15 = .ok (.aload_n 0, 1) := by decide +kernel
theorem dX11_yearOf_16 : decode cX11_yearOf 16 = .ok (.iload_n 1, 1) := by decide +kernel
theorem dX11_yearOf_17 : decode cX11_yearOf 17 = .ok (.invokevirtual 542, 3) := by decide +kernel
theorem dX11_yearOf_20 : decode cX11_yearOf 20 = .ok (.aload_n 0, 1) := by decide +kernel
theorem dX11_yearOf_21 : decode cX11_yearOf 21 = .ok (.iload_n 1, 1) := by decide +kernel
theorem dX11_yearOf_22 : decode cX11_yearOf 22 = .ok (.invokevirtual 486, 3) := by decide +kernel
theorem dX11_yearOf_25 : decode cX11_yearOf 25 = .ok (.istore_n 2, 1) := by decide +kernel
theorem dX11_yearOf_26 : decode cX11_yearOf 26 = .ok (.aload_n 0, 1) := by decide +kernel
theorem dX11_yearOf_27 : decode cX11_yearOf 27 = .ok (.iload_n 1, 1) := by decide +kernel
theorem dX11_yearOf_28 : decode cX11_yearOf 28 = .ok (.invokevirtual 489, 3) := by decide +kernel
theorem dX11_yearOf_31 : decode cX11_yearOf 31 = .ok (.iload_n 2, 1) := by decide +kernel
theorem dX11_yearOf_32 : decode cX11_yearOf 32 = .ok (.if_icmp .gt 5, 3) := by decide +kernel
theorem dX11_yearOf_35 : decode cX11_yearOf 35 = .ok (.iconst 0, 1) := by decide +kernel
theorem dX11_yearOf_36 : decode cX11_yearOf 36 = .ok (.ireturn, 1) := by decide +kernel
theorem dX11_yearOf_37 : decode cX11_yearOf 37 = .ok (.aload_n 0, 1) := by decide +kernel
theorem dX11_yearOf_38 : decode cX11_yearOf 38 = .ok (.aload_n 0, 1) := by decide +kernel
theorem dX11_yearOf_39 : decode cX11_yearOf 39 = .ok (.getfield 174, 3) := by decide +kernel
theorem dX11_yearOf_42 : decode cX11_yearOf 42 = .ok (.iload_n 1, 1) := by decide +kernel
theorem dX11_yearOf_43 : decode cX11_yearOf 43 = .ok (.iaload, 1) := by decide +kernel
theorem dX11_yearOf_44 : decode cX11_yearOf 44 = .ok (.iload_n 2, 1) := by decide +kernel
theorem dX11_yearOf_45 : decode cX11_yearOf 45 = .ok (.invokevirtual 495, 3) := by decide +kernel
theorem dX11_yearOf_48 : decode cX11_yearOf 48 = .ok (.istore_n 3, 1) := by decide +kernel
theorem dX11_yearOf_49 : decode cX11_yearOf 49 = .ok (.iconst 0, 1) := by decide +kernel
theorem dX11_yearOf_50 : decode cX11_yearOf 50 = .ok (.istore 4, 2) := by decide +kernel
theorem dX11_yearOf_52 : decode cX11_yearOf 52 = .ok (.iconst 0, 1) := by decide +kernel
theorem dX11_yearOf_53 : decode cX11_yearOf 53 = .ok (.istore 5, 2) := by decide +kernel
theorem dX11_yearOf_55 : decode cX11_yearOf 55 = .ok (.iload 5, 2) := by decide +kernel
theorem dX11_yearOf_57 : decode cX11_yearOf 57 = .ok (.aload_n 0, 1) := by decide +kernel
theorem dX11_yearOf_58 : decode cX11_yearOf 58 = .ok (.getfield 73, 3) := by decide +kernel
theorem dX11_yearOf_61 : decode cX11_yearOf 61 = .ok (.aload_n 0, 1) := by decide +kernel
theorem dX11_yearOf_62 : decode cX11_yearOf 62 = .ok (.getfield 48, 3) := by decide +kernel
theorem dX11_yearOf_65 : decode cX11_yearOf 65 = .ok (.iaload, 1) := by decide +kernel
theorem dX11_yearOf_66 : decode cX11_yearOf 66 = .ok (.if_icmp .ge 42, 3) := by decide +kernel
theorem dX11_yearOf_69 : decode cX11_yearOf 69 = .ok (.aload_n 0, 1) := by decide +kernel
theorem dX11_yearOf_70 : decode cX11_yearOf 70 = .ok (.iload_n 1, 1) := by decide +kernel
theorem dX11_yearOf_71 : decode cX11_yearOf 71 = .ok (.iload 5, 2) := by decide +kernel
theorem dX11_yearOf_73 : decode cX11_yearOf 73 = .ok (.invokevirtual 470, 3) := by decide +kernel
theorem dX11_yearOf_76 : decode cX11_yearOf 76 = .ok (.ifCond .eq 26, 3) := by decide +kernel
theorem dX11_yearOf_79 : decode cX11_yearOf 79 = .ok (.iload_n 3, 1) := by decide +kernel
theorem dX11_yearOf_80 : decode cX11_yearOf 80 = .ok (.iload 5, 2) := by decide +kernel
theorem dX11_yearOf_82 : decode cX11_yearOf 82 = .ok (.ishr, 1) := by decide +kernel
theorem dX11_yearOf_83 : decode cX11_yearOf 83 = .ok (.iconst 1, 1) := by decide +kernel
theorem dX11_yearOf_84 : decode cX11_yearOf 84 = .ok (.iand, 1) := by decide +kernel
theorem dX11_yearOf_85 : decode cX11_yearOf 85 = .ok (.iconst 1, 1) := by decide +kernel
theorem dX11_yearOf_86 : decode cX11_yearOf 86 = .ok (.if_icmp .ne 6, 3) := by decide +kernel
theorem dX11_yearOf_89 : decode cX11_yearOf 89 = .ok (.goto 13, 3) := by decide +kernel
theorem dX11_yearOf_92 : decode cX11_yearOf 92 = .ok (.aload_n 0, 1) := by decide +kernel
theorem dX11_yearOf_93 : decode cX11_yearOf 93 = .ok (.iload_n 1, 1) := by decide +kernel
theorem dX11_yearOf_94 : decode cX11_yearOf 94 = .ok (.iload 5, 2) := by decide +kernel
theorem dX11_yearOf_96 : decode cX11_yearOf 96 = .ok (.invokevirtual 533, 3) := by decide +kernel
theorem dX11_yearOf_99 : decode cX11_yearOf 99 = .ok (.iinc 4 1, 3) := by decide +kernel
theorem dX11_yearOf_102 : decode cX11_yearOf 102 = .ok (.iinc 5 1, 3) := by decide +kernel
theorem dX11_yearOf_105 : decode cX11_yearOf 105 = .ok (.goto (-50), 3) := by decide +kernel
theorem dX11_yearOf_108 : decode cX11_yearOf 108 = .ok (.iload 4, 2) := by decide +kernel
theorem dX11_yearOf_110 : decode cX11_yearOf 110 = .ok (.ireturn, 1) := by decide +kernel
theorem dX11_years_0 : decode cX11_years 0 = .ok (.iload_n 1, 1) := by decide +kernel
theorem dX11_years_1 : decode cX11_years 1 = .ok (.iconst 1, 1) := by decide +kernel
theorem dX11_years_2 : decode cX11_years 2 = .ok (.bipush 60, 2) := by decide +kernel
theorem dX11_years_4 : decode cX11_years 4 = .ok (.invokestatic 309, 3) := by decide +kernel
theorem dX11_years_7 : decode cX11_years 7 = .ok (.ifCond .ne 9, 3) := by decide +kernel
theorem dX11_years_10 : decode cX11_years 10 = .ok (.aload_n 0, 1) := by decide +kernel
theorem dX11_years_11 : decode cX11_years 11 = .ok (.iconst 4, 1) := by decide +kernel
theorem dX11_years_12 : decode cX11_years 12 = .ok (.invokevirtual 234, 3) := by decide +kernel
theorem dX11_years_15 : decode cX11_years 15 = .ok (.ireturn, 1) := by decide +kernel
theorem dX11_years_16 : decode cX11_years 16 = .ok (.iconst 0, 1) := by decide +kernel
theorem dX11_years_17 : decode cX11_years 17 = .ok (.istore_n 2, 1) := by decide +kernel
theorem dX11_years_18 : decode cX11_years 18 = .ok (.iconst 0, 1) := by decide +kernel
theorem dX11_years_19 : decode cX11_years 19 = .ok (.istore_n 3, 1) := by decide +kernel
theorem dX11_years_20 : decode cX11_years 20 = .ok (.iload_n 3, 1) := by decide +kernel
theorem dX11_years_21 : decode cX11_years 21 = .ok (.iload_n 1, 1) := by decide +kernel
theorem dX11_years_22 : decode cX11_years 22 = .ok (.if_icmp .ge 68, 3) := by decide +kernel
theorem dX11_years_25 : decode cX11_years 25 = .ok (.aload_n 0, 1) := by decide +kernel
theorem dX11_years_26 : decode cX11_years 26 = .ok (.aload_n 0, 1) := by decide +kernel
theorem dX11_years_27 : decode cX11_years 27 = .ok (.getfield 171, 3) := by decide +kernel
theorem dX11_years_30 : decode cX11_years 30 = .ok (.sipush 999, 3) := by decide +kernel
theorem dX11_years_33 : decode cX11_years 33 = .ok (.if_icmp .ge 12, 3) := by decide +kernel
theorem dX11_years_36 : decode cX11_years 36 = .ok (.aload_n 0, 1) := by decide +kernel
theorem dX11_years_37 : decode cX11_years 37 = .ok (.getfield 171, 3) := by decide +kernel
theorem dX11_years_40 : decode cX11_years 40 = .ok (.iconst 1, 1) := by decide +kernel
theorem dX11_years_41 : decode cX11_years 41 = .ok (.iadd, 1) := by decide +kernel
theorem dX11_years_42 : decode cX11_years 42 = .ok (.goto 7, 3) := by decide +kernel
theorem dX11_years_45 : decode cX11_years 45 = .ok (.aload_n 0, 1) := by decide +kernel
theorem dX11_years_46 : decode cX11_years 46 = .ok (.getfield 171, 3) := by decide +kernel
theorem dX11_years_49 : decode cX11_years 49 = .ok (.putfield 171, 3) := by decide +kernel
theorem dX11_years_52 : decode cX11_years 52 = .ok (.iconst 0, 1) := by decide +kernel
theorem dX11_years_53 : decode cX11_years 53 = .ok (.istore 4, 2) := by decide +kernel
theorem dX11_years_55 : decode cX11_years 55 = .ok (.iload 4, 2) := by decide +kernel
theorem dX11_years_57 : decode cX11_years 57 = .ok (.aload_n 0, 1) := by decide +kernel
theorem dX11_years_58 : decode cX11_years 58 = .ok (.getfield 54, 3) := by decide +kernel
theorem dX11_years_61 : decode cX11_years 61 = .ok (.aload_n 0, 1) := by decide +kernel
theorem dX11_years_62 : decode cX11_years 62 = .ok (.getfield 48, 3) := by decide +kernel
theorem dX11_years_65 : decode cX11_years 65 = .ok (.iaload, 1) := by decide +kernel
theorem dX11_years_66 : decode cX11_years 66 = .ok (.if_icmp .ge 18, 3) := by decide +kernel
theorem dX11_years_69 : decode cX11_years 69 = .ok (.iload_n 2, 1) := by decide +kernel
theorem dX11_years_70 : decode cX11_years 70 = .ok (.aload_n 0, 1) := by decide +kernel
theorem dX11_years_71 : decode cX11_years 71 = .ok (.iload 4, 2) := by decide +kernel
theorem dX11_years_73 : decode cX11_years 73 = .ok (.invokevirtual 545, 3) := by decide +kernel
theorem dX11_years_76 : decode cX11_years 76 = .ok (.iadd, 1) := by decide +kernel
theorem dX11_years_77 : decode cX11_years 77 = .ok (.istore_n 2, 1) := by decide +kernel
theorem dX11_years_78 : decode cX11_years 78 = .ok (.iinc 4 1, 3) := by decide +kernel
theorem dX11_years_81 : decode cX11_years 81 = .ok (.goto (-26), 3) := by decide +kernel
theorem dX11_years_84 : decode cX11_years 84 = .ok (.iinc 3 1, 3) := by decide +kernel
theorem dX11_years_87 : decode cX11_years 87 = .ok (.goto (-67), 3) := by decide +kernel
theorem dX11_years_90 : decode cX11_years 90 = .ok (.iload_n 2, 1) := by decide +kernel
theorem dX11_years_91 : decode cX11_years 91 = .ok (.ireturn, 1) := by decide +kernel
theorem dX11_drawn_0 : decode cX11_drawn 0 = .ok (.aload_n 0, 1) := by decide +kernel
theorem dX11_drawn_1 : decode cX11_drawn 1 = .ok (.ldc2_w 548, 3) := by decide +kernel
theorem dX11_drawn_4 : decode cX11_drawn 4 = .ok (.aload_n 0, 1) := by decide +kernel
theorem dX11_drawn_5 : decode cX11_drawn 5 = .ok (.getfield 216, 3) := by decide +kernel
theorem dX11_drawn_8 : decode cX11_drawn 8 = .ok (.lmul, 1) := by decide +kernel
theorem dX11_drawn_9 : decode cX11_drawn 9 = .ok (.ldc2_w 550, 3) := by decide +kernel
theorem dX11_drawn_12 : decode cX11_drawn 12 = .ok (.ladd, 1) := by decide +kernel
theorem dX11_drawn_13 : decode cX11_drawn 13 = .ok (.ldc2_w 552, 3) := by decide +kernel
theorem dX11_drawn_16 : decode cX11_drawn 16 = .ok (.lrem, 1) := by decide +kernel
theorem dX11_drawn_17 : decode cX11_drawn 17 = .ok (.putfield 216, 3) := by decide +kernel
theorem dX11_drawn_20 : decode cX11_drawn 20 = .ok (.aload_n 0, 1) := by decide +kernel
theorem dX11_drawn_21 : decode cX11_drawn 21 = .ok (.getfield 216, 3) := by decide +kernel
theorem dX11_drawn_24 : decode cX11_drawn 24 = .ok (.ldc2_w 554, 3) := by decide +kernel
theorem dX11_drawn_27 : decode cX11_drawn 27 = .ok (.ldiv, 1) := by decide +kernel
theorem dX11_drawn_28 : decode cX11_drawn 28 = .ok (.iload_n 1, 1) := by decide +kernel
theorem dX11_drawn_29 : decode cX11_drawn 29 = .ok (.i2l, 1) := by decide +kernel
theorem dX11_drawn_30 : decode cX11_drawn 30 = .ok (.lrem, 1) := by decide +kernel
theorem dX11_drawn_31 : decode cX11_drawn 31 = .ok (.l2i, 1) := by decide +kernel
theorem dX11_drawn_32 : decode cX11_drawn 32 = .ok (.ireturn, 1) := by decide +kernel
theorem dX11_feastOf_0 : decode cX11_feastOf 0 = .ok (.iconst 0, 1) := by decide +kernel
theorem dX11_feastOf_1 : decode cX11_feastOf 1 = .ok (.istore_n 2, 1) := by decide +kernel
theorem dX11_feastOf_2 : decode cX11_feastOf 2 = .ok (.iconst 0, 1) := by decide +kernel
theorem dX11_feastOf_3 : decode cX11_feastOf 3 = .ok (.istore_n 3, 1) := by decide +kernel
theorem dX11_feastOf_4 : decode cX11_feastOf 4 = .ok (.iload_n 3, 1) := by decide +kernel
theorem dX11_feastOf_5 : decode cX11_feastOf 5 = .ok (.aload_n 0, 1) := by decide +kernel
theorem dX11_feastOf_6 : decode cX11_feastOf 6 = .ok (.getfield 73, 3) := by decide +kernel
theorem dX11_feastOf_9 : decode cX11_feastOf 9 = .ok (.aload_n 0, 1) := by decide +kernel
theorem dX11_feastOf_10 : decode cX11_feastOf 10 = .ok (.getfield 48, 3) := by decide +kernel
theorem dX11_feastOf_13 : decode cX11_feastOf 13 = .ok (.iaload, 1) := by decide +kernel
theorem dX11_feastOf_14 : decode cX11_feastOf 14 = .ok (.if_icmp .ge 26, 3) := by decide +kernel
theorem dX11_feastOf_17 : decode cX11_feastOf 17 = .ok (.iload_n 2, 1) := by decide +kernel
theorem dX11_feastOf_18 : decode cX11_feastOf 18 = .ok (.aload_n 0, 1) := by decide +kernel
theorem dX11_feastOf_19 : decode cX11_feastOf 19 = .ok (.iload_n 1, 1) := by decide +kernel
theorem dX11_feastOf_20 : decode cX11_feastOf 20 = .ok (.iload_n 3, 1) := by decide +kernel
theorem dX11_feastOf_21 : decode cX11_feastOf 21 = .ok (.invokevirtual 521, 3) := by decide +kernel
theorem dX11_feastOf_24 : decode cX11_feastOf 24 = .ok (.ifCond .eq 7, 3) := by decide +kernel
theorem dX11_feastOf_27 : decode cX11_feastOf 27 = .ok (.iconst 1, 1) := by decide +kernel
theorem dX11_feastOf_28 : decode cX11_feastOf 28 = .ok (.goto 4, 3) := by decide +kernel
theorem dX11_feastOf_31 : decode cX11_feastOf 31 = .ok (.iconst 0, 1) := by decide +kernel
theorem dX11_feastOf_32 : decode cX11_feastOf 32 = .ok (.iadd, 1) := by decide +kernel
theorem dX11_feastOf_33 : decode cX11_feastOf 33 = .ok (.istore_n 2, 1) := by decide +kernel
theorem dX11_feastOf_34 : decode cX11_feastOf 34 = .ok (.iinc 3 1, 3) := by decide +kernel
theorem dX11_feastOf_37 : decode cX11_feastOf 37 = .ok (.goto (-33), 3) := by decide +kernel
theorem dX11_feastOf_40 : decode cX11_feastOf 40 = .ok (.aload_n 0, 1) := by decide +kernel
theorem dX11_feastOf_41 : decode cX11_feastOf 41 = .ok (.iload_n 2, 1) := by decide +kernel
theorem dX11_feastOf_42 : decode cX11_feastOf 42 = .ok (.iconst 1, 1) := by decide +kernel
theorem dX11_feastOf_43 : decode cX11_feastOf 43 = .ok (.iadd, 1) := by decide +kernel
theorem dX11_feastOf_44 : decode cX11_feastOf 44 = .ok (.invokevirtual 556, 3) := by decide +kernel
theorem dX11_feastOf_47 : decode cX11_feastOf 47 = .ok (.istore_n 3, 1) := by decide +kernel
theorem dX11_feastOf_48 : decode cX11_feastOf 48 = .ok (.iconst 0, 1) := by decide +kernel
theorem dX11_feastOf_49 : decode cX11_feastOf 49 = .ok (.istore 4, 2) := by decide +kernel
theorem dX11_feastOf_51 : decode cX11_feastOf 51 = .ok (.iload 4, 2) := by decide +kernel
theorem dX11_feastOf_53 : decode cX11_feastOf 53 = .ok (.aload_n 0, 1) := by decide +kernel
theorem dX11_feastOf_54 : decode cX11_feastOf 54 = .ok (.getfield 73, 3) := by decide +kernel
theorem dX11_feastOf_57 : decode cX11_feastOf 57 = .ok (.aload_n 0, 1) := by decide +kernel
theorem dX11_feastOf_58 : decode cX11_feastOf 58 = .ok (.getfield 48, 3) := by decide +kernel
theorem dX11_feastOf_61 : decode cX11_feastOf 61 = .ok (.iaload, 1) := by decide +kernel
theorem dX11_feastOf_62 : decode cX11_feastOf 62 = .ok (.if_icmp .ge 45, 3) := by decide +kernel
theorem dX11_feastOf_65 : decode cX11_feastOf 65 = .ok (.iload_n 3, 1) := by decide +kernel
theorem dX11_feastOf_66 : decode cX11_feastOf 66 = .ok (.ifCond .le 41, 3) := by decide +kernel
theorem dX11_feastOf_69 : decode cX11_feastOf 69 = .ok (.aload_n 0, 1) := by decide +kernel
theorem dX11_feastOf_70 : decode cX11_feastOf 70 = .ok (.iload_n 1, 1) := by decide +kernel
theorem dX11_feastOf_71 : decode cX11_feastOf 71 = .ok (.iload 4, 2) := by decide +kernel
theorem dX11_feastOf_73 : decode cX11_feastOf 73 = .ok (.invokevirtual 521, 3) := by decide +kernel
theorem dX11_feastOf_76 : decode cX11_feastOf 76 = .ok (.ifCond .ne 6, 3) := by decide +kernel
theorem dX11_feastOf_79 : decode cX11_feastOf 79 = .ok (.goto 22, 3) := by decide +kernel
theorem dX11_feastOf_82 : decode cX11_feastOf 82 = .ok (.iinc 3 (-1), 3) := by decide +kernel
theorem dX11_feastOf_85 : decode cX11_feastOf 85 = .ok (.iload_n 3, 1) := by decide +kernel
theorem dX11_feastOf_86 : decode cX11_feastOf 86 = .ok (.ifCond .le 6, 3) := by decide +kernel
theorem dX11_feastOf_89 : decode cX11_feastOf 89 = .ok (.goto 12, 3) := by decide +kernel
theorem dX11_feastOf_92 : decode cX11_feastOf 92 = .ok (.aload_n 0, 1) := by decide +kernel
theorem dX11_feastOf_93 : decode cX11_feastOf 93 = .ok (.iload_n 1, 1) := by decide +kernel
theorem dX11_feastOf_94 : decode cX11_feastOf 94 = .ok (.iload 4, 2) := by decide +kernel
theorem dX11_feastOf_96 : decode cX11_feastOf 96 = .ok (.invokevirtual 524, 3) := by decide +kernel
theorem dX11_feastOf_99 : decode cX11_feastOf 99 = .ok (.iconst 1, 1) := by decide +kernel
theorem dX11_feastOf_100 : decode cX11_feastOf 100 = .ok (.ireturn, 1) := by decide +kernel
theorem dX11_feastOf_101 : decode cX11_feastOf 101 = .ok (.iinc 4 1, 3) := by decide +kernel
theorem dX11_feastOf_104 : decode cX11_feastOf 104 = .ok (.goto (-53), 3) := by decide +kernel
theorem dX11_feastOf_107 : decode cX11_feastOf 107 = .ok (.iconst 0, 1) := by decide +kernel
theorem dX11_feastOf_108 : decode cX11_feastOf 108 = .ok (.ireturn, 1) := by decide +kernel
theorem dX11_feast_0 : decode cX11_feast 0 = .ok (.iconst 0, 1) := by decide +kernel
theorem dX11_feast_1 : decode cX11_feast 1 = .ok (.istore_n 1, 1) := by decide +kernel
theorem dX11_feast_2 : decode cX11_feast 2 = .ok (.iconst 0, 1) := by decide +kernel
theorem dX11_feast_3 : decode cX11_feast 3 = .ok (.istore_n 2, 1) := by decide +kernel
theorem dX11_feast_4 : decode cX11_feast 4 = .ok (.iload_n 2, 1) := by decide +kernel
theorem dX11_feast_5 : decode cX11_feast 5 = .ok (.aload_n 0, 1) := by decide +kernel
theorem dX11_feast_6 : decode cX11_feast 6 = .ok (.getfield 54, 3) := by decide +kernel
theorem dX11_feast_9 : decode cX11_feast 9 = .ok (.aload_n 0, 1) := by decide +kernel
theorem dX11_feast_10 : decode cX11_feast 10 = .ok (.getfield 48, 3) := by decide +kernel
theorem dX11_feast_13 : decode cX11_feast 13 = .ok (.iaload, 1) := by decide +kernel
theorem dX11_feast_14 : decode cX11_feast 14 = .ok (.if_icmp .ge 17, 3) := by decide +kernel
theorem dX11_feast_17 : decode cX11_feast 17 = .ok (.iload_n 1, 1) := by decide +kernel
theorem dX11_feast_18 : decode cX11_feast 18 = .ok (.aload_n 0, 1) := by decide +kernel
theorem dX11_feast_19 : decode cX11_feast 19 = .ok (.iload_n 2, 1) := by decide +kernel
theorem dX11_feast_20 : decode cX11_feast 20 = .ok (.invokevirtual 559, 3) := by decide +kernel
theorem dX11_feast_23 : decode cX11_feast 23 = .ok (.iadd, 1) := by decide +kernel
theorem dX11_feast_24 : decode cX11_feast 24 = .ok (.istore_n 1, 1) := by decide +kernel
theorem dX11_feast_25 : decode cX11_feast 25 = .ok (.iinc 2 1, 3) := by decide +kernel
theorem dX11_feast_28 : decode cX11_feast 28 = .ok (.goto (-24), 3) := by decide +kernel
theorem dX11_feast_31 : decode cX11_feast 31 = .ok (.iload_n 1, 1) := by decide +kernel
theorem dX11_feast_32 : decode cX11_feast 32 = .ok (.ireturn, 1) := by decide +kernel
theorem dX11_seed_0 : decode cX11_seed 0 = .ok (.iload_n 1, 1) := by decide +kernel
theorem dX11_seed_1 : decode cX11_seed 1 = .ok (.ifCond .ge 17, 3) := by decide +kernel
theorem dX11_seed_4 : decode cX11_seed 4 = .ok (.aload_n 0, 1) := by decide +kernel
theorem dX11_seed_5 : decode cX11_seed 5 = .ok (.iconst 4, 1) := by decide +kernel
theorem dX11_seed_6 : decode cX11_seed 6 = .ok (.invokevirtual 234, 3) := by decide +kernel
theorem dX11_seed_9 : decode cX11_seed 9 = .ok (.ifCond .lt 7, 3) := by decide +kernel
theorem dX11_seed_12 : decode cX11_seed 12 = .ok (.iconst 1, 1) := by decide +kernel
theorem dX11_seed_13 : decode cX11_seed 13 = .ok (.goto 4, 3) := by decide +kernel
theorem dX11_seed_16 : decode cX11_seed 16 = .ok (.iconst 0, 1) := by decide +kernel
theorem dX11_seed_17 : decode cX11_seed 17 = .ok (.ireturn, 1) := by decide +kernel
theorem dX11_seed_18 : decode cX11_seed 18 = .ok (.aload_n 0, 1) := by decide +kernel
theorem dX11_seed_19 : decode cX11_seed 19 = .ok (.iload_n 1, 1) := by decide +kernel
theorem dX11_seed_20 : decode cX11_seed 20 = .ok (.i2l, 1) := by decide +kernel
theorem dX11_seed_21 : decode cX11_seed 21 = .ok (.putfield 216, 3) := by decide +kernel
theorem dX11_seed_24 : decode cX11_seed 24 = .ok (.iconst 1, 1) := by decide +kernel
theorem dX11_seed_25 : decode cX11_seed 25 = .ok (.ireturn, 1) := by decide +kernel
theorem dX11_signed_0 : decode cX11_signed 0 = .ok (.aload_n 0, 1) := by decide +kernel
theorem dX11_signed_1 : decode cX11_signed 1 = .ok (.iload_n 1, 1) := by decide +kernel
theorem dX11_signed_2 : decode cX11_signed 2 = .ok (.invokevirtual 467, 3) := by decide +kernel
theorem dX11_signed_5 : decode cX11_signed 5 = .ok (.ifCond .eq 14, 3) := by decide +kernel
theorem dX11_signed_8 : decode cX11_signed 8 = .ok (.iload_n 2, 1) := by decide +kernel
theorem dX11_signed_9 : decode cX11_signed 9 = .ok (.iconst 0, 1) := by decide +kernel
theorem dX11_signed_10 : decode cX11_signed 10 = .ok (.sipush 999, 3) := by decide +kernel
theorem dX11_signed_13 : decode cX11_signed 13 = .ok (.invokestatic 309, 3) := by decide +kernel
theorem dX11_signed_16 : decode cX11_signed 16 = .ok (.ifCond .ne 5, 3) := by decide +kernel
theorem dX11_signed_19 : decode cX11_signed 19 = .ok (.iconst (-1), 1) := by decide +kernel
theorem dX11_signed_20 : decode cX11_signed 20 = .ok (.ireturn, 1) := by decide +kernel
theorem dX11_signed_21 : decode cX11_signed 21 = .ok (.iconst 0, 1) := by decide +kernel
theorem dX11_signed_22 : decode cX11_signed 22 = .ok (.istore_n 3, 1) := by decide +kernel
theorem dX11_signed_23 : decode cX11_signed 23 = .ok (.iconst 0, 1) := by decide +kernel
theorem dX11_signed_24 : decode cX11_signed 24 = .ok (.istore 4, 2) := by decide +kernel
theorem dX11_signed_26 : decode cX11_signed 26 = .ok (.iload 4, 2) := by decide +kernel
theorem dX11_signed_28 : decode cX11_signed 28 = .ok (.aload_n 0, 1) := by decide +kernel
theorem dX11_signed_29 : decode cX11_signed 29 = .ok (.getfield 54, 3) := by decide +kernel
theorem dX11_signed_32 : decode cX11_signed 32 = .ok (.aload_n 0, 1) := by decide +kernel
theorem dX11_signed_33 : decode cX11_signed 33 = .ok (.getfield 48, 3) := by decide +kernel
theorem dX11_signed_36 : decode cX11_signed 36 = .ok (.iaload, 1) := by decide +kernel
theorem dX11_signed_37 : decode cX11_signed 37 = .ok (.if_icmp .ge 54, 3) := by decide +kernel
theorem dX11_signed_40 : decode cX11_signed 40 = .ok (.iload_n 3, 1) := by decide +kernel
theorem dX11_signed_41 : decode cX11_signed 41 = .ok (.aload_n 0, 1) := by decide +kernel
theorem dX11_signed_42 : decode cX11_signed 42 = .ok (.iload 4, 2) := by decide +kernel
theorem dX11_signed_44 : decode cX11_signed 44 = .ok (.iload_n 1, 1) := by decide +kernel
theorem dX11_signed_45 : decode cX11_signed 45 = .ok (.invokevirtual 470, 3) := by decide +kernel
theorem dX11_signed_48 : decode cX11_signed 48 = .ok (.ifCond .eq 34, 3) := by decide +kernel
theorem dX11_signed_51 : decode cX11_signed 51 = .ok (.aload_n 0, 1) := by decide +kernel
theorem dX11_signed_52 : decode cX11_signed 52 = .ok (.getfield 213, 3) := by decide +kernel
theorem dX11_signed_55 : decode cX11_signed 55 = .ok (.bipush 12, 2) := by decide +kernel
theorem dX11_signed_57 : decode cX11_signed 57 = .ok (.iload 4, 2) := by decide +kernel
theorem dX11_signed_59 : decode cX11_signed 59 = .ok (.imul, 1) := by decide +kernel
theorem dX11_signed_60 : decode cX11_signed 60 = .ok (.iload_n 1, 1) := by decide +kernel
theorem dX11_signed_61 : decode cX11_signed 61 = .ok (.iadd, 1) := by decide +kernel
theorem dX11_signed_62 : decode cX11_signed 62 = .ok (.iaload, 1) := by decide +kernel
theorem dX11_signed_63 : decode cX11_signed 63 = .ok (.iload_n 2, 1) := by decide +kernel
theorem dX11_signed_64 : decode cX11_signed 64 = .ok (.if_icmp .gt 18, 3) := by decide +kernel
theorem dX11_signed_67 : decode cX11_signed 67 = .ok (.iload_n 2, 1) := by decide +kernel
theorem dX11_signed_68 : decode cX11_signed 68 = .ok (.aload_n 0, 1) := by decide +kernel
theorem dX11_signed_69 : decode cX11_signed 69 = .ok (.getfield 171, 3) := by decide +kernel
theorem dX11_signed_72 : decode cX11_signed 72 = .ok (.if_icmp .gt 10, 3) := by decide +kernel
theorem dX11_signed_75 : decode cX11_signed 75 = .ok (.iconst 1, 1) := by decide +kernel
theorem dX11_signed_76 : decode cX11_signed 76 = .ok (.iload 4, 2) := by decide +kernel
theorem dX11_signed_78 : decode cX11_signed 78 = .ok (.ishl, 1) := by decide +kernel
theorem dX11_signed_79 : decode cX11_signed 79 = .ok (.goto 4, 3) := by decide +kernel
theorem dX11_signed_82 : decode cX11_signed 82 = .ok (.iconst 0, 1) := by decide +kernel
theorem dX11_signed_83 : decode cX11_signed 83 = .ok (.ior, 1) := by decide +kernel
theorem dX11_signed_84 : decode cX11_signed 84 = .ok (.istore_n 3, 1) := by decide +kernel
theorem dX11_signed_85 : decode cX11_signed 85 = .ok (.iinc 4 1, 3) := by decide +kernel
theorem dX11_signed_88 : decode cX11_signed 88 = .ok (.goto (-62), 3) := by decide +kernel
theorem dX11_signed_91 : decode cX11_signed 91 = .ok (.iconst 0, 1) := by decide +kernel
theorem dX11_signed_92 : decode cX11_signed 92 = .ok (.istore 4, 2) := by decide +kernel
theorem dX11_signed_94 : decode cX11_signed 94 = .ok (.iload 4, 2) := by decide +kernel
theorem dX11_signed_96 : decode cX11_signed 96 = .ok (.aload_n 0, 1) := by decide +kernel
theorem dX11_signed_97 : decode cX11_signed 97 = .ok (.getfield 207, 3) := by decide +kernel
theorem dX11_signed_100 : decode cX11_signed 100 = .ok (.if_icmp .ge 72, 3) := by decide +kernel
theorem dX11_signed_103 : decode cX11_signed 103 = .ok (.iload_n 3, 1) := by decide +kernel
theorem dX11_signed_104 : decode cX11_signed 104 = .ok (.aload_n 0, 1) := by decide +kernel
theorem dX11_signed_105 : decode cX11_signed 105 = .ok (.getfield 210, 3) := by decide +kernel
theorem dX11_signed_108 : decode cX11_signed 108 = .ok (.iconst 4, 1) := by decide +kernel
theorem dX11_signed_109 : decode cX11_signed 109 = .ok (.iload 4, 2) := by decide +kernel
theorem dX11_signed_111 : decode cX11_signed 111 = .ok (.imul, 1) := by decide +kernel
theorem dX11_signed_112 : decode cX11_signed 112 = .ok (.iconst 1, 1) := by decide +kernel
theorem dX11_signed_113 : decode cX11_signed 113 = .ok (.iadd, 1) := by decide +kernel
theorem dX11_signed_114 : decode cX11_signed 114 = .ok (.iaload, 1) := by decide +kernel
theorem dX11_signed_115 : decode cX11_signed 115 = .ok (.iload_n 1, 1) := by decide +kernel
theorem dX11_signed_116 : decode cX11_signed 116 = .ok (.if_icmp .ne 47, 3) := by decide +kernel
theorem dX11_signed_119 : decode cX11_signed 119 = .ok (.aload_n 0, 1) := by decide +kernel
theorem dX11_signed_120 : decode cX11_signed 120 = .ok (.getfield 210, 3) := by decide +kernel
theorem dX11_signed_123 : decode cX11_signed 123 = .ok (.iconst 4, 1) := by decide +kernel
theorem dX11_signed_124 : decode cX11_signed 124 = .ok (.iload 4, 2) := by decide +kernel
theorem dX11_signed_126 : decode cX11_signed 126 = .ok (.imul, 1) := by decide +kernel
theorem dX11_signed_127 : decode cX11_signed 127 = .ok (.iconst 2, 1) := by decide +kernel
theorem dX11_signed_128 : decode cX11_signed 128 = .ok (.iadd, 1) := by decide +kernel
theorem dX11_signed_129 : decode cX11_signed 129 = .ok (.iaload, 1) := by decide +kernel
theorem dX11_signed_130 : decode cX11_signed 130 = .ok (.iload_n 2, 1) := by decide +kernel
theorem dX11_signed_131 : decode cX11_signed 131 = .ok (.if_icmp .gt 32, 3) := by decide +kernel
theorem dX11_signed_134 : decode cX11_signed 134 = .ok (.iload_n 2, 1) := by decide +kernel
theorem dX11_signed_135 : decode cX11_signed 135 = .ok (.aload_n 0, 1) := by decide +kernel
theorem dX11_signed_136 : decode cX11_signed 136 = .ok (.getfield 210, 3) := by decide +kernel
theorem dX11_signed_139 : decode cX11_signed 139 = .ok (.iconst 4, 1) := by decide +kernel
theorem dX11_signed_140 : decode cX11_signed 140 = .ok (.iload 4, 2) := by decide +kernel
theorem dX11_signed_142 : decode cX11_signed 142 = .ok (.imul, 1) := by decide +kernel
theorem dX11_signed_143 : decode cX11_signed 143 = .ok (.iconst 3, 1) := by decide +kernel
theorem dX11_signed_144 : decode cX11_signed 144 = .ok (.iadd, 1) := by decide +kernel
theorem dX11_signed_145 : decode cX11_signed 145 = .ok (.iaload, 1) := by decide +kernel
theorem dX11_signed_146 : decode cX11_signed 146 = .ok (.if_icmp .gt 17, 3) := by decide +kernel
theorem dX11_signed_149 : decode cX11_signed 149 = .ok (.iconst 1, 1) := by decide +kernel
theorem dX11_signed_150 : decode cX11_signed 150 = .ok (.aload_n 0, 1) := by decide +kernel
theorem dX11_signed_151 : decode cX11_signed 151 = .ok (.getfield 210, 3) := by decide +kernel
theorem dX11_signed_154 : decode cX11_signed 154 = .ok (.iconst 4, 1) := by decide +kernel
theorem dX11_signed_155 : decode cX11_signed 155 = .ok (.iload 4, 2) := by decide +kernel
theorem dX11_signed_157 : decode cX11_signed 157 = .ok (.imul, 1) := by decide +kernel
theorem dX11_signed_158 : decode cX11_signed 158 = .ok (.iaload, 1) := by decide +kernel
theorem dX11_signed_159 : decode cX11_signed 159 = .ok (.ishl, 1) := by decide +kernel
theorem dX11_signed_160 : decode cX11_signed 160 = .ok (.goto 4, 3) := by decide +kernel
theorem dX11_signed_163 : decode cX11_signed 163 = .ok (.iconst 0, 1) := by decide +kernel
theorem dX11_signed_164 : decode cX11_signed 164 = .ok (.ior, 1) := by decide +kernel
theorem dX11_signed_165 : decode cX11_signed 165 = .ok (.istore_n 3, 1) := by decide +kernel
theorem dX11_signed_166 : decode cX11_signed 166 = .ok (.iinc 4 1, 3) := by decide +kernel
theorem dX11_signed_169 : decode cX11_signed 169 = .ok (.goto (-75), 3) := by decide +kernel
theorem dX11_signed_172 : decode cX11_signed 172 = .ok (.iload_n 3, 1) := by decide +kernel
theorem dX11_signed_173 : decode cX11_signed 173 = .ok (.ireturn, 1) := by decide +kernel
theorem dX11_span_0 : decode cX11_span 0 = .ok (.iload_n 1, 1) := by decide +kernel
theorem dX11_span_1 : decode cX11_span 1 = .ok (.iconst 0, 1) := by decide +kernel
theorem dX11_span_2 : decode cX11_span 2 = .ok (.aload_n 0, 1) := by decide +kernel
theorem dX11_span_3 : decode cX11_span 3 = .ok (.getfield 207, 3) := by decide +kernel
theorem dX11_span_6 : decode cX11_span 6 = .ok (.iconst 1, 1) := by decide +kernel
theorem dX11_span_7 : decode cX11_span 7 = .ok (.isub, 1) := by decide +kernel
theorem dX11_span_8 : decode cX11_span 8 = .ok (.invokestatic 309, 3) := by decide +kernel
theorem dX11_span_11 : decode cX11_span 11 = .ok (.ifCond .eq 25, 3) := by decide +kernel
theorem dX11_span_14 : decode cX11_span 14 = .ok (.iload_n 2, 1) := by decide +kernel
theorem dX11_span_15 : decode cX11_span 15 = .ok (.iconst 0, 1) := by decide +kernel
theorem dX11_span_16 : decode cX11_span 16 = .ok (.iconst 3, 1) := by decide +kernel
theorem dX11_span_17 : decode cX11_span 17 = .ok (.invokestatic 309, 3) := by decide +kernel
theorem dX11_span_20 : decode cX11_span 20 = .ok (.ifCond .eq 16, 3) := by decide +kernel
theorem dX11_span_23 : decode cX11_span 23 = .ok (.aload_n 0, 1) := by decide +kernel
theorem dX11_span_24 : decode cX11_span 24 = .ok (.getfield 210, 3) := by decide +kernel
theorem dX11_span_27 : decode cX11_span 27 = .ok (.iconst 4, 1) := by decide +kernel
theorem dX11_span_28 : decode cX11_span 28 = .ok (.iload_n 1, 1) := by decide +kernel
theorem dX11_span_29 : decode cX11_span 29 = .ok (.imul, 1) := by decide +kernel
theorem dX11_span_30 : decode cX11_span 30 = .ok (.iload_n 2, 1) := by decide +kernel
theorem dX11_span_31 : decode cX11_span 31 = .ok (.iadd, 1) := by decide +kernel
theorem dX11_span_32 : decode cX11_span 32 = .ok (.iaload, 1) := by decide +kernel
theorem dX11_span_33 : decode cX11_span 33 = .ok (.goto 4, 3) := by decide +kernel
theorem dX11_span_36 : decode cX11_span 36 = .ok (.iconst (-1), 1) := by decide +kernel
theorem dX11_span_37 : decode cX11_span 37 = .ok (.ireturn, 1) := by decide +kernel
theorem dX11_moved_0 : decode cX11_moved 0 = .ok (.iload_n 1, 1) := by decide +kernel
theorem dX11_moved_1 : decode cX11_moved 1 = .ok (.iconst 0, 1) := by decide +kernel
theorem dX11_moved_2 : decode cX11_moved 2 = .ok (.aload_n 0, 1) := by decide +kernel
theorem dX11_moved_3 : decode cX11_moved 3 = .ok (.getfield 201, 3) := by decide +kernel
theorem dX11_moved_6 : decode cX11_moved 6 = .ok (.iconst 1, 1) := by decide +kernel
theorem dX11_moved_7 : decode cX11_moved 7 = .ok (.isub, 1) := by decide +kernel
theorem dX11_moved_8 : decode cX11_moved 8 = .ok (.invokestatic 309, 3) := by decide +kernel
theorem dX11_moved_11 : decode cX11_moved 11 = .ok (.ifCond .eq 25, 3) := by decide +kernel
theorem dX11_moved_14 : decode cX11_moved 14 = .ok (.iload_n 2, 1) := by decide +kernel
theorem dX11_moved_15 : decode cX11_moved 15 = .ok (.iconst 0, 1) := by decide +kernel
theorem dX11_moved_16 : decode cX11_moved 16 = .ok (.iconst 4, 1) := by decide +kernel
theorem dX11_moved_17 : decode cX11_moved 17 = .ok (.invokestatic 309, 3) := by decide +kernel
theorem dX11_moved_20 : decode cX11_moved 20 = .ok (.ifCond .eq 16, 3) := by decide +kernel
theorem dX11_moved_23 : decode cX11_moved 23 = .ok (.aload_n 0, 1) := by decide +kernel
theorem dX11_moved_24 : decode cX11_moved 24 = .ok (.getfield 204, 3) := by decide +kernel
theorem dX11_moved_27 : decode cX11_moved 27 = .ok (.iconst 5, 1) := by decide +kernel
theorem dX11_moved_28 : decode cX11_moved 28 = .ok (.iload_n 1, 1) := by decide +kernel
theorem dX11_moved_29 : decode cX11_moved 29 = .ok (.imul, 1) := by decide +kernel
theorem dX11_moved_30 : decode cX11_moved 30 = .ok (.iload_n 2, 1) := by decide +kernel
theorem dX11_moved_31 : decode cX11_moved 31 = .ok (.iadd, 1) := by decide +kernel
theorem dX11_moved_32 : decode cX11_moved 32 = .ok (.iaload, 1) := by decide +kernel
theorem dX11_moved_33 : decode cX11_moved 33 = .ok (.goto 4, 3) := by decide +kernel
theorem dX11_moved_36 : decode cX11_moved 36 = .ok (.iconst (-1), 1) := by decide +kernel
theorem dX11_moved_37 : decode cX11_moved 37 = .ok (.ireturn, 1) := by decide +kernel
theorem dX11_likelyOf_0 : decode cX11_likelyOf 0 = .ok (.ldc2_w 562, 3) := by decide +kernel
theorem dX11_likelyOf_3 : decode cX11_likelyOf 3 = .ok (.lstore 4, 2) := by decide +kernel
theorem dX11_likelyOf_5 : decode cX11_likelyOf 5 = .ok (.aload_n 0, 1) := by decide +kernel
theorem dX11_likelyOf_6 : decode cX11_likelyOf 6 = .ok (.getfield 67, 3) := by decide +kernel
theorem dX11_likelyOf_9 : decode cX11_likelyOf 9 = .ok (.bipush 8, 2) := by decide +kernel
theorem dX11_likelyOf_11 : decode cX11_likelyOf 11 = .ok (.aload_n 0, 1) := by decide +kernel
theorem dX11_likelyOf_12 : decode cX11_likelyOf 12 = .ok (.getfield 48, 3) := by decide +kernel
theorem dX11_likelyOf_15 : decode cX11_likelyOf 15 = .ok (.imul, 1) := by decide +kernel
theorem dX11_likelyOf_16 : decode cX11_likelyOf 16 = .ok (.iload_n 1, 1) := by decide +kernel
theorem dX11_likelyOf_17 : decode cX11_likelyOf 17 = .ok (.iadd, 1) := by decide +kernel
theorem dX11_likelyOf_18 : decode cX11_likelyOf 18 = .ok (.iaload, 1) := by decide +kernel
theorem dX11_likelyOf_19 : decode cX11_likelyOf 19 = .ok (.istore 6, 2) := by decide +kernel
theorem dX11_likelyOf_21 : decode cX11_likelyOf 21 = .ok (.iconst 0, 1) := by decide +kernel
theorem dX11_likelyOf_22 : decode cX11_likelyOf 22 = .ok (.istore 7, 2) := by decide +kernel
theorem dX11_likelyOf_24 : decode cX11_likelyOf 24 = .ok (.iload 7, 2) := by decide +kernel
theorem dX11_likelyOf_26 : decode cX11_likelyOf 26 = .ok (.iload_n 2, 1) := by decide +kernel
theorem dX11_likelyOf_27 : decode cX11_likelyOf 27 = .ok (.if_icmp .ge 35, 3) := by decide +kernel
theorem dX11_likelyOf_30 : decode cX11_likelyOf 30 = .ok (.lload 4, 2) := by decide +kernel
theorem dX11_likelyOf_32 : decode cX11_likelyOf 32 = .ok (.iload 7, 2) := by decide +kernel
theorem dX11_likelyOf_34 : decode cX11_likelyOf 34 = .ok (.iload_n 3, 1) := by decide +kernel
theorem dX11_likelyOf_35 : decode cX11_likelyOf 35 = .ok (.if_icmp .ge 8, 3) := by decide +kernel
theorem dX11_likelyOf_38 : decode cX11_likelyOf 38 = .ok (.iload 6, 2) := by decide +kernel
theorem dX11_likelyOf_40 : decode cX11_likelyOf 40 = .ok (.goto 8, 3) := by decide +kernel
theorem dX11_likelyOf_43 : decode cX11_likelyOf 43 = .ok (.bipush 100, 2) := by decide +kernel
theorem dX11_likelyOf_45 : decode cX11_likelyOf 45 = .ok (.iload 6, 2) := by decide +kernel
theorem dX11_likelyOf_47 : decode cX11_likelyOf 47 = .ok (.isub, 1) := by decide +kernel
theorem dX11_likelyOf_48 : decode cX11_likelyOf 48 = .ok (.i2l, 1) := by decide +kernel
theorem dX11_likelyOf_49 : decode cX11_likelyOf 49 = .ok (.lmul, 1) := by decide +kernel
theorem dX11_likelyOf_50 : decode cX11_likelyOf 50 = .ok (.ldc2_w 564, 3) := by decide +kernel
theorem dX11_likelyOf_53 : decode cX11_likelyOf 53 = .ok (.ldiv, 1) := by decide +kernel
theorem dX11_likelyOf_54 : decode cX11_likelyOf 54 = .ok (.lstore 4, 2) := by decide +kernel
theorem dX11_likelyOf_56 : decode cX11_likelyOf 56 = .ok (.iinc 7 1, 3) := by decide +kernel
theorem dX11_likelyOf_59 : decode cX11_likelyOf 59 = .ok (.goto (-35), 3) := by decide +kernel
theorem dX11_likelyOf_62 : decode cX11_likelyOf 62 = .ok (.lload 4, 2) := by decide +kernel
theorem dX11_likelyOf_64 : decode cX11_likelyOf 64 = .ok (.lreturn, 1) := by decide +kernel
theorem dX11_share_0 : decode cX11_share 0 = .ok (.aload_n 0, 1) := by decide +kernel
theorem dX11_share_1 : decode cX11_share 1 = .ok (.iload_n 1, 1) := by decide +kernel
theorem dX11_share_2 : decode cX11_share 2 = .ok (.invokevirtual 483, 3) := by decide +kernel
theorem dX11_share_5 : decode cX11_share 5 = .ok (.ifCond .eq 22, 3) := by decide +kernel
theorem dX11_share_8 : decode cX11_share 8 = .ok (.iload_n 2, 1) := by decide +kernel
theorem dX11_share_9 : decode cX11_share 9 = .ok (.iconst 0, 1) := by decide +kernel
theorem dX11_share_10 : decode cX11_share 10 = .ok (.bipush 40, 2) := by decide +kernel
theorem dX11_share_12 : decode cX11_share 12 = .ok (.invokestatic 309, 3) := by decide +kernel
theorem dX11_share_15 : decode cX11_share 15 = .ok (.ifCond .eq 12, 3) := by decide +kernel
theorem dX11_share_18 : decode cX11_share 18 = .ok (.iload_n 3, 1) := by decide +kernel
theorem dX11_share_19 : decode cX11_share 19 = .ok (.iconst 0, 1) := by decide +kernel
theorem dX11_share_20 : decode cX11_share 20 = .ok (.iload_n 2, 1) := by decide +kernel
theorem dX11_share_21 : decode cX11_share 21 = .ok (.invokestatic 309, 3) := by decide +kernel
theorem dX11_share_24 : decode cX11_share 24 = .ok (.ifCond .ne 5, 3) := by decide +kernel
theorem dX11_share_27 : decode cX11_share 27 = .ok (.iconst (-1), 1) := by decide +kernel
theorem dX11_share_28 : decode cX11_share 28 = .ok (.ireturn, 1) := by decide +kernel
theorem dX11_share_29 : decode cX11_share 29 = .ok (.lconst 0, 1) := by decide +kernel
theorem dX11_share_30 : decode cX11_share 30 = .ok (.lstore 4, 2) := by decide +kernel
theorem dX11_share_32 : decode cX11_share 32 = .ok (.iconst 0, 1) := by decide +kernel
theorem dX11_share_33 : decode cX11_share 33 = .ok (.istore 6, 2) := by decide +kernel
theorem dX11_share_35 : decode cX11_share 35 = .ok (.iload 6, 2) := by decide +kernel
theorem dX11_share_37 : decode cX11_share 37 = .ok (.aload_n 0, 1) := by decide +kernel
theorem dX11_share_38 : decode cX11_share 38 = .ok (.getfield 54, 3) := by decide +kernel
theorem dX11_share_41 : decode cX11_share 41 = .ok (.aload_n 0, 1) := by decide +kernel
theorem dX11_share_42 : decode cX11_share 42 = .ok (.getfield 48, 3) := by decide +kernel
theorem dX11_share_45 : decode cX11_share 45 = .ok (.iaload, 1) := by decide +kernel
theorem dX11_share_46 : decode cX11_share 46 = .ok (.if_icmp .ge 22, 3) := by decide +kernel
theorem dX11_share_49 : decode cX11_share 49 = .ok (.lload 4, 2) := by decide +kernel
theorem dX11_share_51 : decode cX11_share 51 = .ok (.aload_n 0, 1) := by decide +kernel
theorem dX11_share_52 : decode cX11_share 52 = .ok (.iload 6, 2) := by decide +kernel
theorem dX11_share_54 : decode cX11_share 54 = .ok (.iload_n 2, 1) := by decide +kernel
theorem dX11_share_55 : decode cX11_share 55 = .ok (.iload_n 3, 1) := by decide +kernel
theorem dX11_share_56 : decode cX11_share 56 = .ok (.invokevirtual 566, 3) := by decide +kernel
theorem dX11_share_59 : decode cX11_share 59 = .ok (.ladd, 1) := by decide +kernel
theorem dX11_share_60 : decode cX11_share 60 = .ok (.lstore 4, 2) := by decide +kernel
theorem dX11_share_62 : decode cX11_share 62 = .ok (.iinc 6 1, 3) := by decide +kernel
theorem dX11_share_65 : decode cX11_share 65 = .ok (.goto (-30), 3) := by decide +kernel
theorem dX11_share_68 : decode cX11_share 68 = .ok (.lload 4, 2) := by decide +kernel
theorem dX11_share_70 : decode cX11_share 70 = .ok (.lconst 0, 1) := by decide +kernel
theorem dX11_share_71 : decode cX11_share 71 = .ok (.lcmp, 1) := by decide +kernel
theorem dX11_share_72 : decode cX11_share 72 = .ok (.ifCond .ne 7, 3) := by decide +kernel
theorem dX11_share_75 : decode cX11_share 75 = .ok (.iconst 0, 1) := by decide +kernel
theorem dX11_share_76 : decode cX11_share 76 = .ok (.goto 18, 3) := by decide +kernel
theorem dX11_share_79 : decode cX11_share 79 = .ok (.ldc2_w 569, 3) := by decide +kernel
theorem dX11_share_82 : decode cX11_share 82 = .ok (.aload_n 0, 1) := by decide +kernel
theorem dX11_share_83 : decode cX11_share 83 = .ok (.iload_n 1, 1) := by decide +kernel
theorem dX11_share_84 : decode cX11_share 84 = .ok (.iload_n 2, 1) := by decide +kernel
theorem dX11_share_85 : decode cX11_share 85 = .ok (.iload_n 3, 1) := by decide +kernel
theorem dX11_share_86 : decode cX11_share 86 = .ok (.invokevirtual 566, 3) := by decide +kernel
theorem dX11_share_89 : decode cX11_share 89 = .ok (.lmul, 1) := by decide +kernel
theorem dX11_share_90 : decode cX11_share 90 = .ok (.lload 4, 2) := by decide +kernel
theorem dX11_share_92 : decode cX11_share 92 = .ok (.ldiv, 1) := by decide +kernel
theorem dX11_share_93 : decode cX11_share 93 = .ok (.l2i, 1) := by decide +kernel
theorem dX11_share_94 : decode cX11_share 94 = .ok (.ireturn, 1) := by decide +kernel
theorem dX11_bullets_0 : decode cX11_bullets 0 = .ok (.iload_n 1, 1) := by decide +kernel
theorem dX11_bullets_1 : decode cX11_bullets 1 = .ok (.iconst 0, 1) := by decide +kernel
theorem dX11_bullets_2 : decode cX11_bullets 2 = .ok (.ldc_w 571, 3) := by decide +kernel
theorem dX11_bullets_5 : decode cX11_bullets 5 = .ok (.invokestatic 309, 3) := by decide +kernel
theorem dX11_bullets_8 : decode cX11_bullets 8 = .ok (.ifCond .eq 12, 3) := by decide +kernel
theorem dX11_bullets_11 : decode cX11_bullets 11 = .ok (.iload_n 2, 1) := by decide +kernel
theorem dX11_bullets_12 : decode cX11_bullets 12 = .ok (.ifCond .eq 10, 3) := by decide +kernel
theorem dX11_bullets_15 : decode cX11_bullets 15 = .ok (.iload_n 2, 1) := by decide +kernel
theorem dX11_bullets_16 : decode cX11_bullets 16 = .ok (.iconst 1, 1) := by decide +kernel
theorem dX11_bullets_17 : decode cX11_bullets 17 = .ok (.if_icmp .eq 5, 3) := by decide +kernel
theorem dX11_bullets_20 : decode cX11_bullets 20 = .ok (.iconst (-1), 1) := by decide +kernel
theorem dX11_bullets_21 : decode cX11_bullets 21 = .ok (.ireturn, 1) := by decide +kernel
theorem dX11_bullets_22 : decode cX11_bullets 22 = .ok (.aload_n 0, 1) := by decide +kernel
theorem dX11_bullets_23 : decode cX11_bullets 23 = .ok (.getfield 195, 3) := by decide +kernel
theorem dX11_bullets_26 : decode cX11_bullets 26 = .ok (.bipush 16, 2) := by decide +kernel
theorem dX11_bullets_28 : decode cX11_bullets 28 = .ok (.if_icmp .ge 10, 3) := by decide +kernel
theorem dX11_bullets_31 : decode cX11_bullets 31 = .ok (.aload_n 0, 1) := by decide +kernel
theorem dX11_bullets_32 : decode cX11_bullets 32 = .ok (.getfield 195, 3) := by decide +kernel
theorem dX11_bullets_35 : decode cX11_bullets 35 = .ok (.goto 5, 3) := by decide +kernel
theorem dX11_bullets_38 : decode cX11_bullets 38 = .ok (.bipush 16, 2) := by decide +kernel
theorem dX11_bullets_40 : decode cX11_bullets 40 = .ok (.istore_n 3, 1) := by decide +kernel
theorem dX11_bullets_41 : decode cX11_bullets 41 = .ok (.iconst 0, 1) := by decide +kernel
theorem dX11_bullets_42 : decode cX11_bullets 42 = .ok (.istore 4, 2) := by decide +kernel
theorem dX11_bullets_44 : decode cX11_bullets 44 = .ok (.iconst (-1), 1) := by decide +kernel
theorem dX11_bullets_45 : decode cX11_bullets 45 = .ok (.istore 5, 2) := by decide +kernel
theorem dX11_bullets_47 : decode cX11_bullets 47 = .ok (.iconst 0, 1) := by decide +kernel
theorem dX11_bullets_48 : decode cX11_bullets 48 = .ok (.istore 6, 2) := by decide +kernel
theorem dX11_bullets_50 : decode cX11_bullets 50 = .ok (.iload 6, 2) := by decide +kernel
theorem dX11_bullets_52 : decode cX11_bullets 52 = .ok (.iconst 1, 1) := by decide +kernel
theorem dX11_bullets_53 : decode cX11_bullets 53 = .ok (.iload_n 3, 1) := by decide +kernel
theorem dX11_bullets_54 : decode cX11_bullets 54 = .ok (.ishl, 1) := by decide +kernel
theorem dX11_bullets_55 : decode cX11_bullets 55 = .ok (.if_icmp .ge 81, 3) := by decide +kernel
theorem dX11_bullets_58 : decode cX11_bullets 58 = .ok (.iconst 0, 1) := by decide +kernel
theorem dX11_bullets_59 : decode cX11_bullets 59 = .ok (.istore 7, 2) := by decide +kernel
theorem dX11_bullets_61 : decode cX11_bullets 61 = .ok (.iconst 0, 1) := by decide +kernel
theorem dX11_bullets_62 : decode cX11_bullets 62 = .ok (.istore 8, 2) := by decide +kernel
theorem dX11_bullets_64 : decode cX11_bullets 64 = .ok (.iload 8, 2) := by decide +kernel
theorem dX11_bullets_66 : decode cX11_bullets 66 = .ok (.iload_n 3, 1) := by decide +kernel
theorem dX11_bullets_67 : decode cX11_bullets 67 = .ok (.if_icmp .ge 36, 3) := by decide +kernel
theorem dX11_bullets_70 : decode cX11_bullets 70 = .ok (.iload 7, 2) := by decide +kernel
theorem dX11_bullets_72 : decode cX11_bullets 72 = .ok (.iload 6, 2) := by decide +kernel
theorem dX11_bullets_74 : decode cX11_bullets 74 = .ok (.iload 8, 2) := by decide +kernel
theorem dX11_bullets_76 : decode cX11_bullets 76 = .ok (.ishr, 1) := by decide +kernel
theorem dX11_bullets_77 : decode cX11_bullets 77 = .ok (.iconst 1, 1) := by decide +kernel
theorem dX11_bullets_78 : decode cX11_bullets 78 = .ok (.iand, 1) := by decide +kernel
theorem dX11_bullets_79 : decode cX11_bullets 79 = .ok (.iconst 1, 1) := by decide +kernel
theorem dX11_bullets_80 : decode cX11_bullets 80 = .ok (.if_icmp .ne 13, 3) := by decide +kernel
theorem dX11_bullets_83 : decode cX11_bullets 83 = .ok (.aload_n 0, 1) := by decide +kernel
theorem dX11_bullets_84 : decode cX11_bullets 84 = .ok (.getfield 198, 3) := by decide +kernel
theorem dX11_bullets_87 : decode cX11_bullets 87 = .ok (.iload 8, 2) := by decide +kernel
theorem dX11_bullets_89 : decode cX11_bullets 89 = .ok (.iaload, 1) := by decide +kernel
theorem dX11_bullets_90 : decode cX11_bullets 90 = .ok (.goto 4, 3) := by decide +kernel
theorem dX11_bullets_93 : decode cX11_bullets 93 = .ok (.iconst 0, 1) := by decide +kernel
theorem dX11_bullets_94 : decode cX11_bullets 94 = .ok (.iadd, 1) := by decide +kernel
theorem dX11_bullets_95 : decode cX11_bullets 95 = .ok (.istore 7, 2) := by decide +kernel
theorem dX11_bullets_97 : decode cX11_bullets 97 = .ok (.iinc 8 1, 3) := by decide +kernel
theorem dX11_bullets_100 : decode cX11_bullets 100 = .ok (.goto (-36), 3) := by decide +kernel
theorem dX11_bullets_103 : decode cX11_bullets 103 = .ok (.iload 7, 2) := by decide +kernel
theorem dX11_bullets_105 : decode cX11_bullets 105 = .ok (.iload_n 1, 1) := by decide +kernel
theorem dX11_bullets_106 : decode cX11_bullets 106 = .ok (.if_icmp .eq 6, 3) := by decide +kernel
theorem dX11_bullets_109 : decode cX11_bullets 109 = .ok (.goto 21, 3) := by decide +kernel
theorem dX11_bullets_112 : decode cX11_bullets 112 = .ok (.iinc 4 1, 3) := by decide +kernel
theorem dX11_bullets_115 : decode cX11_bullets 115 = .ok (.iload 5, 2) := by decide +kernel
theorem dX11_bullets_117 : decode cX11_bullets 117 = .ok (.iconst (-1), 1) := by decide +kernel
theorem dX11_bullets_118 : decode cX11_bullets 118 = .ok (.if_icmp .ne 8, 3) := by decide +kernel
theorem dX11_bullets_121 : decode cX11_bullets 121 = .ok (.iload 6, 2) := by decide +kernel
theorem dX11_bullets_123 : decode cX11_bullets 123 = .ok (.goto 5, 3) := by decide +kernel
theorem dX11_bullets_126 : decode cX11_bullets 126 = .ok (.iload 5, 2) := by decide +kernel
theorem dX11_bullets_128 : decode cX11_bullets 128 = .ok (.istore 5, 2) := by decide +kernel
theorem dX11_bullets_130 : decode cX11_bullets 130 = .ok (.iinc 6 1, 3) := by decide +kernel
theorem dX11_bullets_133 : decode cX11_bullets 133 = .ok (.goto (-83), 3) := by decide +kernel
theorem dX11_bullets_136 : decode cX11_bullets 136 = .ok (.iload_n 2, 1) := by decide +kernel
theorem dX11_bullets_137 : decode cX11_bullets 137 = .ok (.ifCond .ne 8, 3) := by decide +kernel
theorem dX11_bullets_140 : decode cX11_bullets 140 = .ok (.iload 4, 2) := by decide +kernel
theorem dX11_bullets_142 : decode cX11_bullets 142 = .ok (.goto 5, 3) := by decide +kernel
theorem dX11_bullets_145 : decode cX11_bullets 145 = .ok (.iload 5, 2) := by decide +kernel
theorem dX11_bullets_147 : decode cX11_bullets 147 = .ok (.ireturn, 1) := by decide +kernel
theorem dX11_letterOf_0 : decode cX11_letterOf 0 = .ok (.aload_n 0, 1) := by decide +kernel
theorem dX11_letterOf_1 : decode cX11_letterOf 1 = .ok (.getfield 76, 3) := by decide +kernel
theorem dX11_letterOf_4 : decode cX11_letterOf 4 = .ok (.bipush 12, 2) := by decide +kernel
theorem dX11_letterOf_6 : decode cX11_letterOf 6 = .ok (.aload_n 0, 1) := by decide +kernel
theorem dX11_letterOf_7 : decode cX11_letterOf 7 = .ok (.getfield 48, 3) := by decide +kernel
theorem dX11_letterOf_10 : decode cX11_letterOf 10 = .ok (.imul, 1) := by decide +kernel
theorem dX11_letterOf_11 : decode cX11_letterOf 11 = .ok (.iload_n 1, 1) := by decide +kernel
theorem dX11_letterOf_12 : decode cX11_letterOf 12 = .ok (.iadd, 1) := by decide +kernel
theorem dX11_letterOf_13 : decode cX11_letterOf 13 = .ok (.laload, 1) := by decide +kernel
theorem dX11_letterOf_14 : decode cX11_letterOf 14 = .ok (.bipush 8, 2) := by decide +kernel
theorem dX11_letterOf_16 : decode cX11_letterOf 16 = .ok (.aload_n 0, 1) := by decide +kernel
theorem dX11_letterOf_17 : decode cX11_letterOf 17 = .ok (.iload_n 1, 1) := by decide +kernel
theorem dX11_letterOf_18 : decode cX11_letterOf 18 = .ok (.invokevirtual 474, 3) := by decide +kernel
theorem dX11_letterOf_21 : decode cX11_letterOf 21 = .ok (.iconst 1, 1) := by decide +kernel
theorem dX11_letterOf_22 : decode cX11_letterOf 22 = .ok (.isub, 1) := by decide +kernel
theorem dX11_letterOf_23 : decode cX11_letterOf 23 = .ok (.iload_n 2, 1) := by decide +kernel
theorem dX11_letterOf_24 : decode cX11_letterOf 24 = .ok (.isub, 1) := by decide +kernel
theorem dX11_letterOf_25 : decode cX11_letterOf 25 = .ok (.imul, 1) := by decide +kernel
theorem dX11_letterOf_26 : decode cX11_letterOf 26 = .ok (.lushr, 1) := by decide +kernel
theorem dX11_letterOf_27 : decode cX11_letterOf 27 = .ok (.ldc2_w 351, 3) := by decide +kernel
theorem dX11_letterOf_30 : decode cX11_letterOf 30 = .ok (.land, 1) := by decide +kernel
theorem dX11_letterOf_31 : decode cX11_letterOf 31 = .ok (.l2i, 1) := by decide +kernel
theorem dX11_letterOf_32 : decode cX11_letterOf 32 = .ok (.bipush 97, 2) := by decide +kernel
theorem dX11_letterOf_34 : decode cX11_letterOf 34 = .ok (.isub, 1) := by decide +kernel
theorem dX11_letterOf_35 : decode cX11_letterOf 35 = .ok (.ireturn, 1) := by decide +kernel
theorem dX11_tries_0 : decode cX11_tries 0 = .ok (.aload_n 0, 1) := by decide +kernel
theorem dX11_tries_1 : decode cX11_tries 1 = .ok (.iload_n 1, 1) := by decide +kernel
theorem dX11_tries_2 : decode cX11_tries 2 = .ok (.invokevirtual 474, 3) := by decide +kernel
theorem dX11_tries_5 : decode cX11_tries 5 = .ok (.istore 4, 2) := by decide +kernel
theorem dX11_tries_7 : decode cX11_tries 7 = .ok (.aload_n 0, 1) := by decide +kernel
theorem dX11_tries_8 : decode cX11_tries 8 = .ok (.iload_n 2, 1) := by decide +kernel
theorem dX11_tries_9 : decode cX11_tries 9 = .ok (.invokevirtual 474, 3) := by decide +kernel
theorem dX11_tries_12 : decode cX11_tries 12 = .ok (.istore 5, 2) := by decide +kernel
theorem dX11_tries_14 : decode cX11_tries 14 = .ok (.iload 4, 2) := by decide +kernel
theorem dX11_tries_16 : decode cX11_tries 16 = .ok (.iload_n 3, 1) := by decide +kernel
theorem dX11_tries_17 : decode cX11_tries 17 = .ok (.isub, 1) := by decide +kernel
theorem dX11_tries_18 : decode cX11_tries 18 = .ok (.iload 5, 2) := by decide +kernel
theorem dX11_tries_20 : decode cX11_tries 20 = .ok (.if_icmp .ge 10, 3) := by decide +kernel
theorem dX11_tries_23 : decode cX11_tries 23 = .ok (.iload 4, 2) := by decide +kernel
theorem dX11_tries_25 : decode cX11_tries 25 = .ok (.iload_n 3, 1) := by decide +kernel
theorem dX11_tries_26 : decode cX11_tries 26 = .ok (.isub, 1) := by decide +kernel
theorem dX11_tries_27 : decode cX11_tries 27 = .ok (.goto 5, 3) := by decide +kernel
theorem dX11_tries_30 : decode cX11_tries 30 = .ok (.iload 5, 2) := by decide +kernel
theorem dX11_tries_32 : decode cX11_tries 32 = .ok (.istore 6, 2) := by decide +kernel
theorem dX11_tries_34 : decode cX11_tries 34 = .ok (.iconst 0, 1) := by decide +kernel
theorem dX11_tries_35 : decode cX11_tries 35 = .ok (.istore 7, 2) := by decide +kernel
theorem dX11_tries_37 : decode cX11_tries 37 = .ok (.iconst 0, 1) := by decide +kernel
theorem dX11_tries_38 : decode cX11_tries 38 = .ok (.istore 8, 2) := by decide +kernel
theorem dX11_tries_40 : decode cX11_tries 40 = .ok (.iload 8, 2) := by decide +kernel
theorem dX11_tries_42 : decode cX11_tries 42 = .ok (.iload 6, 2) := by decide +kernel
theorem dX11_tries_44 : decode cX11_tries 44 = .ok (.if_icmp .ge 45, 3) := by decide +kernel
theorem dX11_tries_47 : decode cX11_tries 47 = .ok (.aload_n 0, 1) := by decide +kernel
theorem dX11_tries_48 : decode cX11_tries 48 = .ok (.iload_n 1, 1) := by decide +kernel
theorem dX11_tries_49 : decode cX11_tries 49 = .ok (.iload_n 3, 1) := by decide +kernel
theorem dX11_tries_50 : decode cX11_tries 50 = .ok (.iload 8, 2) := by decide +kernel
theorem dX11_tries_52 : decode cX11_tries 52 = .ok (.iadd, 1) := by decide +kernel
theorem dX11_tries_53 : decode cX11_tries 53 = .ok (.invokevirtual 572, 3) := by decide +kernel
theorem dX11_tries_56 : decode cX11_tries 56 = .ok (.aload_n 0, 1) := by decide +kernel
theorem dX11_tries_57 : decode cX11_tries 57 = .ok (.iload_n 2, 1) := by decide +kernel
theorem dX11_tries_58 : decode cX11_tries 58 = .ok (.iload 8, 2) := by decide +kernel
theorem dX11_tries_60 : decode cX11_tries 60 = .ok (.invokevirtual 572, 3) := by decide +kernel
theorem dX11_tries_63 : decode cX11_tries 63 = .ok (.if_icmp .eq 4, 3) := by decide +kernel
theorem dX11_tries_66 : decode cX11_tries 66 = .ok (.return_, 1) := by decide +kernel
theorem dX11_tries_67 : decode cX11_tries 67 = .ok (.iload 7, 2) := by decide +kernel
theorem dX11_tries_69 : decode cX11_tries 69 = .ok (.aload_n 0, 1) := by decide +kernel
theorem dX11_tries_70 : decode cX11_tries 70 = .ok (.aload_n 0, 1) := by decide +kernel
theorem dX11_tries_71 : decode cX11_tries 71 = .ok (.iload_n 2, 1) := by decide +kernel
theorem dX11_tries_72 : decode cX11_tries 72 = .ok (.iload 8, 2) := by decide +kernel
theorem dX11_tries_74 : decode cX11_tries 74 = .ok (.invokevirtual 572, 3) := by decide +kernel
theorem dX11_tries_77 : decode cX11_tries 77 = .ok (.invokevirtual 433, 3) := by decide +kernel
theorem dX11_tries_80 : decode cX11_tries 80 = .ok (.iadd, 1) := by decide +kernel
theorem dX11_tries_81 : decode cX11_tries 81 = .ok (.istore 7, 2) := by decide +kernel
theorem dX11_tries_83 : decode cX11_tries 83 = .ok (.iinc 8 1, 3) := by decide +kernel
theorem dX11_tries_86 : decode cX11_tries 86 = .ok (.goto (-46), 3) := by decide +kernel
theorem dX11_tries_89 : decode cX11_tries 89 = .ok (.iload 6, 2) := by decide +kernel
theorem dX11_tries_91 : decode cX11_tries 91 = .ok (.aload_n 0, 1) := by decide +kernel
theorem dX11_tries_92 : decode cX11_tries 92 = .ok (.getfield 219, 3) := by decide +kernel
theorem dX11_tries_95 : decode cX11_tries 95 = .ok (.if_icmp .lt 21, 3) := by decide +kernel
theorem dX11_tries_98 : decode cX11_tries 98 = .ok (.iload 6, 2) := by decide +kernel
theorem dX11_tries_100 : decode cX11_tries 100 = .ok (.aload_n 0, 1) := by decide +kernel
theorem dX11_tries_101 : decode cX11_tries 101 = .ok (.getfield 219, 3) := by decide +kernel
theorem dX11_tries_104 : decode cX11_tries 104 = .ok (.if_icmp .ne 13, 3) := by decide +kernel
theorem dX11_tries_107 : decode cX11_tries 107 = .ok (.iload 7, 2) := by decide +kernel
theorem dX11_tries_109 : decode cX11_tries 109 = .ok (.aload_n 0, 1) := by decide +kernel
theorem dX11_tries_110 : decode cX11_tries 110 = .ok (.getfield 222, 3) := by decide +kernel
theorem dX11_tries_113 : decode cX11_tries 113 = .ok (.if_icmp .gt 4, 3) := by decide +kernel
theorem dX11_tries_116 : decode cX11_tries 116 = .ok (.return_, 1) := by decide +kernel
theorem dX11_tries_117 : decode cX11_tries 117 = .ok (.aload_n 0, 1) := by decide +kernel
theorem dX11_tries_118 : decode cX11_tries 118 = .ok (.iload 6, 2) := by decide +kernel
theorem dX11_tries_120 : decode cX11_tries 120 = .ok (.putfield 219, 3) := by decide +kernel
theorem dX11_tries_123 : decode cX11_tries 123 = .ok (.aload_n 0, 1) := by decide +kernel
theorem dX11_tries_124 : decode cX11_tries 124 = .ok (.iload 7, 2) := by decide +kernel
theorem dX11_tries_126 : decode cX11_tries 126 = .ok (.putfield 222, 3) := by decide +kernel
theorem dX11_tries_129 : decode cX11_tries 129 = .ok (.return_, 1) := by decide +kernel
theorem dX11_row_0 : decode cX11_row 0 = .ok (.aload_n 0, 1) := by decide +kernel
theorem dX11_row_1 : decode cX11_row 1 = .ok (.iload_n 1, 1) := by decide +kernel
theorem dX11_row_2 : decode cX11_row 2 = .ok (.invokevirtual 467, 3) := by decide +kernel
theorem dX11_row_5 : decode cX11_row 5 = .ok (.ifCond .eq 25, 3) := by decide +kernel
theorem dX11_row_8 : decode cX11_row 8 = .ok (.aload_n 0, 1) := by decide +kernel
theorem dX11_row_9 : decode cX11_row 9 = .ok (.iload_n 2, 1) := by decide +kernel
theorem dX11_row_10 : decode cX11_row 10 = .ok (.invokevirtual 467, 3) := by decide +kernel
theorem dX11_row_13 : decode cX11_row 13 = .ok (.ifCond .eq 17, 3) := by decide +kernel
theorem dX11_row_16 : decode cX11_row 16 = .ok (.iload_n 1, 1) := by decide +kernel
theorem dX11_row_17 : decode cX11_row 17 = .ok (.iload_n 2, 1) := by decide +kernel
theorem dX11_row_18 : decode cX11_row 18 = .ok (.if_icmp .eq 12, 3) := by decide +kernel
theorem dX11_row_21 : decode cX11_row 21 = .ok (.iload_n 3, 1) := by decide +kernel
theorem dX11_row_22 : decode cX11_row 22 = .ok (.iconst 0, 1) := by decide +kernel
theorem dX11_row_23 : decode cX11_row 23 = .ok (.iconst 2, 1) := by decide +kernel
theorem dX11_row_24 : decode cX11_row 24 = .ok (.invokestatic 309, 3) := by decide +kernel
theorem dX11_row_27 : decode cX11_row 27 = .ok (.ifCond .ne 5, 3) := by decide +kernel
theorem dX11_row_30 : decode cX11_row 30 = .ok (.iconst (-1), 1) := by decide +kernel
theorem dX11_row_31 : decode cX11_row 31 = .ok (.ireturn, 1) := by decide +kernel
theorem dX11_row_32 : decode cX11_row 32 = .ok (.aload_n 0, 1) := by decide +kernel
theorem dX11_row_33 : decode cX11_row 33 = .ok (.iconst 0, 1) := by decide +kernel
theorem dX11_row_34 : decode cX11_row 34 = .ok (.putfield 219, 3) := by decide +kernel
theorem dX11_row_37 : decode cX11_row 37 = .ok (.aload_n 0, 1) := by decide +kernel
theorem dX11_row_38 : decode cX11_row 38 = .ok (.iconst 0, 1) := by decide +kernel
theorem dX11_row_39 : decode cX11_row 39 = .ok (.putfield 222, 3) := by decide +kernel
theorem dX11_row_42 : decode cX11_row 42 = .ok (.iconst 0, 1) := by decide +kernel
theorem dX11_row_43 : decode cX11_row 43 = .ok (.istore 4, 2) := by decide +kernel
theorem dX11_row_45 : decode cX11_row 45 = .ok (.iload 4, 2) := by decide +kernel
theorem dX11_row_47 : decode cX11_row 47 = .ok (.aload_n 0, 1) := by decide +kernel
theorem dX11_row_48 : decode cX11_row 48 = .ok (.iload_n 1, 1) := by decide +kernel
theorem dX11_row_49 : decode cX11_row 49 = .ok (.invokevirtual 474, 3) := by decide +kernel
theorem dX11_row_52 : decode cX11_row 52 = .ok (.if_icmp .ge 17, 3) := by decide +kernel
theorem dX11_row_55 : decode cX11_row 55 = .ok (.aload_n 0, 1) := by decide +kernel
theorem dX11_row_56 : decode cX11_row 56 = .ok (.iload_n 1, 1) := by decide +kernel
theorem dX11_row_57 : decode cX11_row 57 = .ok (.iload_n 2, 1) := by decide +kernel
theorem dX11_row_58 : decode cX11_row 58 = .ok (.iload 4, 2) := by decide +kernel
theorem dX11_row_60 : decode cX11_row 60 = .ok (.invokevirtual 575, 3) := by decide +kernel
theorem dX11_row_63 : decode cX11_row 63 = .ok (.iinc 4 1, 3) := by decide +kernel
theorem dX11_row_66 : decode cX11_row 66 = .ok (.goto (-21), 3) := by decide +kernel
theorem dX11_row_69 : decode cX11_row 69 = .ok (.iconst 0, 1) := by decide +kernel
theorem dX11_row_70 : decode cX11_row 70 = .ok (.istore 4, 2) := by decide +kernel
theorem dX11_row_72 : decode cX11_row 72 = .ok (.iload 4, 2) := by decide +kernel
theorem dX11_row_74 : decode cX11_row 74 = .ok (.aload_n 0, 1) := by decide +kernel
theorem dX11_row_75 : decode cX11_row 75 = .ok (.iload_n 2, 1) := by decide +kernel
theorem dX11_row_76 : decode cX11_row 76 = .ok (.invokevirtual 474, 3) := by decide +kernel
theorem dX11_row_79 : decode cX11_row 79 = .ok (.if_icmp .ge 17, 3) := by decide +kernel
theorem dX11_row_82 : decode cX11_row 82 = .ok (.aload_n 0, 1) := by decide +kernel
theorem dX11_row_83 : decode cX11_row 83 = .ok (.iload_n 2, 1) := by decide +kernel
theorem dX11_row_84 : decode cX11_row 84 = .ok (.iload_n 1, 1) := by decide +kernel
theorem dX11_row_85 : decode cX11_row 85 = .ok (.iload 4, 2) := by decide +kernel
theorem dX11_row_87 : decode cX11_row 87 = .ok (.invokevirtual 575, 3) := by decide +kernel
theorem dX11_row_90 : decode cX11_row 90 = .ok (.iinc 4 1, 3) := by decide +kernel
theorem dX11_row_93 : decode cX11_row 93 = .ok (.goto (-21), 3) := by decide +kernel
theorem dX11_row_96 : decode cX11_row 96 = .ok (.iload_n 3, 1) := by decide +kernel
theorem dX11_row_97 : decode cX11_row 97 = .ok (.ifCond .ne 22, 3) := by decide +kernel
theorem dX11_row_100 : decode cX11_row 100 = .ok (.aload_n 0, 1) := by decide +kernel
theorem dX11_row_101 : decode cX11_row 101 = .ok (.iload_n 1, 1) := by decide +kernel
theorem dX11_row_102 : decode cX11_row 102 = .ok (.invokevirtual 474, 3) := by decide +kernel
theorem dX11_row_105 : decode cX11_row 105 = .ok (.aload_n 0, 1) := by decide +kernel
theorem dX11_row_106 : decode cX11_row 106 = .ok (.iload_n 2, 1) := by decide +kernel
theorem dX11_row_107 : decode cX11_row 107 = .ok (.invokevirtual 474, 3) := by decide +kernel
theorem dX11_row_110 : decode cX11_row 110 = .ok (.iadd, 1) := by decide +kernel
theorem dX11_row_111 : decode cX11_row 111 = .ok (.aload_n 0, 1) := by decide +kernel
theorem dX11_row_112 : decode cX11_row 112 = .ok (.getfield 219, 3) := by decide +kernel
theorem dX11_row_115 : decode cX11_row 115 = .ok (.isub, 1) := by decide +kernel
theorem dX11_row_116 : decode cX11_row 116 = .ok (.goto 31, 3) := by decide +kernel
theorem dX11_row_119 : decode cX11_row 119 = .ok (.iload_n 3, 1) := by decide +kernel
theorem dX11_row_120 : decode cX11_row 120 = .ok (.iconst 1, 1) := by decide +kernel
theorem dX11_row_121 : decode cX11_row 121 = .ok (.if_icmp .ne 22, 3) := by decide +kernel
theorem dX11_row_124 : decode cX11_row 124 = .ok (.aload_n 0, 1) := by decide +kernel
theorem dX11_row_125 : decode cX11_row 125 = .ok (.iload_n 1, 1) := by decide +kernel
theorem dX11_row_126 : decode cX11_row 126 = .ok (.invokevirtual 439, 3) := by decide +kernel
theorem dX11_row_129 : decode cX11_row 129 = .ok (.aload_n 0, 1) := by decide +kernel
theorem dX11_row_130 : decode cX11_row 130 = .ok (.iload_n 2, 1) := by decide +kernel
theorem dX11_row_131 : decode cX11_row 131 = .ok (.invokevirtual 439, 3) := by decide +kernel
theorem dX11_row_134 : decode cX11_row 134 = .ok (.iadd, 1) := by decide +kernel
theorem dX11_row_135 : decode cX11_row 135 = .ok (.aload_n 0, 1) := by decide +kernel
theorem dX11_row_136 : decode cX11_row 136 = .ok (.getfield 222, 3) := by decide +kernel
theorem dX11_row_139 : decode cX11_row 139 = .ok (.isub, 1) := by decide +kernel
theorem dX11_row_140 : decode cX11_row 140 = .ok (.goto 7, 3) := by decide +kernel
theorem dX11_row_143 : decode cX11_row 143 = .ok (.aload_n 0, 1) := by decide +kernel
theorem dX11_row_144 : decode cX11_row 144 = .ok (.getfield 219, 3) := by decide +kernel
theorem dX11_row_147 : decode cX11_row 147 = .ok (.ireturn, 1) := by decide +kernel
theorem dX11_goings_0 : decode cX11_goings 0 = .ok (.iload_n 1, 1) := by decide +kernel
theorem dX11_goings_1 : decode cX11_goings 1 = .ok (.iconst 0, 1) := by decide +kernel
theorem dX11_goings_2 : decode cX11_goings 2 = .ok (.aload_n 0, 1) := by decide +kernel
theorem dX11_goings_3 : decode cX11_goings 3 = .ok (.getfield 106, 3) := by decide +kernel
theorem dX11_goings_6 : decode cX11_goings 6 = .ok (.aload_n 0, 1) := by decide +kernel
theorem dX11_goings_7 : decode cX11_goings 7 = .ok (.getfield 48, 3) := by decide +kernel
theorem dX11_goings_10 : decode cX11_goings 10 = .ok (.iaload, 1) := by decide +kernel
theorem dX11_goings_11 : decode cX11_goings 11 = .ok (.iconst 1, 1) := by decide +kernel
theorem dX11_goings_12 : decode cX11_goings 12 = .ok (.isub, 1) := by decide +kernel
theorem dX11_goings_13 : decode cX11_goings 13 = .ok (.invokestatic 309, 3) := by decide +kernel
theorem dX11_goings_16 : decode cX11_goings 16 = .ok (.ifCond .eq 24, 3) := by decide +kernel
theorem dX11_goings_19 : decode cX11_goings 19 = .ok (.iload_n 2, 1) := by decide +kernel
theorem dX11_goings_20 : decode cX11_goings 20 = .ok (.iconst 0, 1) := by decide +kernel
theorem dX11_goings_21 : decode cX11_goings 21 = .ok (.iconst 1, 1) := by decide +kernel
theorem dX11_goings_22 : decode cX11_goings 22 = .ok (.aload_n 0, 1) := by decide +kernel
theorem dX11_goings_23 : decode cX11_goings 23 = .ok (.getfield 54, 3) := by decide +kernel
theorem dX11_goings_26 : decode cX11_goings 26 = .ok (.aload_n 0, 1) := by decide +kernel
theorem dX11_goings_27 : decode cX11_goings 27 = .ok (.getfield 48, 3) := by decide +kernel
theorem dX11_goings_30 : decode cX11_goings 30 = .ok (.iaload, 1) := by decide +kernel
theorem dX11_goings_31 : decode cX11_goings 31 = .ok (.ishl, 1) := by decide +kernel
theorem dX11_goings_32 : decode cX11_goings 32 = .ok (.iconst 1, 1) := by decide +kernel
theorem dX11_goings_33 : decode cX11_goings 33 = .ok (.isub, 1) := by decide +kernel
theorem dX11_goings_34 : decode cX11_goings 34 = .ok (.invokestatic 309, 3) := by decide +kernel
theorem dX11_goings_37 : decode cX11_goings 37 = .ok (.ifCond .ne 5, 3) := by decide +kernel
theorem dX11_goings_40 : decode cX11_goings 40 = .ok (.iconst (-1), 1) := by decide +kernel
theorem dX11_goings_41 : decode cX11_goings 41 = .ok (.ireturn, 1) := by decide +kernel
theorem dX11_goings_42 : decode cX11_goings 42 = .ok (.aload_n 0, 1) := by decide +kernel
theorem dX11_goings_43 : decode cX11_goings 43 = .ok (.getfield 112, 3) := by decide +kernel
theorem dX11_goings_46 : decode cX11_goings 46 = .ok (.iconst 4, 1) := by decide +kernel
theorem dX11_goings_47 : decode cX11_goings 47 = .ok (.aload_n 0, 1) := by decide +kernel
theorem dX11_goings_48 : decode cX11_goings 48 = .ok (.getfield 48, 3) := by decide +kernel
theorem dX11_goings_51 : decode cX11_goings 51 = .ok (.imul, 1) := by decide +kernel
theorem dX11_goings_52 : decode cX11_goings 52 = .ok (.iload_n 1, 1) := by decide +kernel
theorem dX11_goings_53 : decode cX11_goings 53 = .ok (.iadd, 1) := by decide +kernel
theorem dX11_goings_54 : decode cX11_goings 54 = .ok (.iaload, 1) := by decide +kernel
theorem dX11_goings_55 : decode cX11_goings 55 = .ok (.istore_n 3, 1) := by decide +kernel
theorem dX11_goings_56 : decode cX11_goings 56 = .ok (.iconst 0, 1) := by decide +kernel
theorem dX11_goings_57 : decode cX11_goings 57 = .ok (.istore 4, 2) := by decide +kernel
theorem dX11_goings_59 : decode cX11_goings 59 = .ok (.iload 4, 2) := by decide +kernel
theorem dX11_goings_61 : decode cX11_goings 61 = .ok (.iconst 1, 1) := by decide +kernel
theorem dX11_goings_62 : decode cX11_goings 62 = .ok (.aload_n 0, 1) := by decide +kernel
theorem dX11_goings_63 : decode cX11_goings 63 = .ok (.getfield 54, 3) := by decide +kernel
theorem dX11_goings_66 : decode cX11_goings 66 = .ok (.aload_n 0, 1) := by decide +kernel
theorem dX11_goings_67 : decode cX11_goings 67 = .ok (.getfield 48, 3) := by decide +kernel
theorem dX11_goings_70 : decode cX11_goings 70 = .ok (.iaload, 1) := by decide +kernel
theorem dX11_goings_71 : decode cX11_goings 71 = .ok (.ishl, 1) := by decide +kernel
theorem dX11_goings_72 : decode cX11_goings 72 = .ok (.if_icmp .ge 88, 3) := by decide +kernel
theorem dX11_goings_75 : decode cX11_goings 75 = .ok (.iconst 0, 1) := by decide +kernel
theorem dX11_goings_76 : decode cX11_goings 76 = .ok (.istore 5, 2) := by decide +kernel
theorem dX11_goings_78 : decode cX11_goings 78 = .ok (.iconst 0, 1) := by decide +kernel
theorem dX11_goings_79 : decode cX11_goings 79 = .ok (.istore 6, 2) := by decide +kernel
theorem dX11_goings_81 : decode cX11_goings 81 = .ok (.iload 6, 2) := by decide +kernel
theorem dX11_goings_83 : decode cX11_goings 83 = .ok (.aload_n 0, 1) := by decide +kernel
theorem dX11_goings_84 : decode cX11_goings 84 = .ok (.getfield 54, 3) := by decide +kernel
theorem dX11_goings_87 : decode cX11_goings 87 = .ok (.aload_n 0, 1) := by decide +kernel
theorem dX11_goings_88 : decode cX11_goings 88 = .ok (.getfield 48, 3) := by decide +kernel
theorem dX11_goings_91 : decode cX11_goings 91 = .ok (.iaload, 1) := by decide +kernel
theorem dX11_goings_92 : decode cX11_goings 92 = .ok (.if_icmp .ge 35, 3) := by decide +kernel
theorem dX11_goings_95 : decode cX11_goings 95 = .ok (.iload 5, 2) := by decide +kernel
theorem dX11_goings_97 : decode cX11_goings 97 = .ok (.iload 4, 2) := by decide +kernel
theorem dX11_goings_99 : decode cX11_goings 99 = .ok (.iload 6, 2) := by decide +kernel
theorem dX11_goings_101 : decode cX11_goings 101 = .ok (.ishr, 1) := by decide +kernel
theorem dX11_goings_102 : decode cX11_goings 102 = .ok (.iconst 1, 1) := by decide +kernel
theorem dX11_goings_103 : decode cX11_goings 103 = .ok (.iand, 1) := by decide +kernel
theorem dX11_goings_104 : decode cX11_goings 104 = .ok (.iconst 1, 1) := by decide +kernel
theorem dX11_goings_105 : decode cX11_goings 105 = .ok (.if_icmp .ne 12, 3) := by decide +kernel
theorem dX11_goings_108 : decode cX11_goings 108 = .ok (.aload_n 0, 1) := by decide +kernel
theorem dX11_goings_109 : decode cX11_goings 109 = .ok (.iload 6, 2) := by decide +kernel
theorem dX11_goings_111 : decode cX11_goings 111 = .ok (.invokevirtual 489, 3) := by decide +kernel
theorem dX11_goings_114 : decode cX11_goings 114 = .ok (.goto 4, 3) := by decide +kernel
theorem dX11_goings_117 : decode cX11_goings 117 = .ok (.iconst 0, 1) := by decide +kernel
theorem dX11_goings_118 : decode cX11_goings 118 = .ok (.iadd, 1) := by decide +kernel
theorem dX11_goings_119 : decode cX11_goings 119 = .ok (.istore 5, 2) := by decide +kernel
theorem dX11_goings_121 : decode cX11_goings 121 = .ok (.iinc 6 1, 3) := by decide +kernel
theorem dX11_goings_124 : decode cX11_goings 124 = .ok (.goto (-43), 3) := by decide +kernel
theorem dX11_goings_127 : decode cX11_goings 127 = .ok (.aload_n 0, 1) := by decide +kernel
theorem dX11_goings_128 : decode cX11_goings 128 = .ok (.getfield 225, 3) := by decide +kernel
theorem dX11_goings_131 : decode cX11_goings 131 = .ok (.iload 4, 2) := by decide +kernel
theorem dX11_goings_133 : decode cX11_goings 133 = .ok (.iload 4, 2) := by decide +kernel
theorem dX11_goings_135 : decode cX11_goings 135 = .ok (.ifCond .ne 7, 3) := by decide +kernel
theorem dX11_goings_138 : decode cX11_goings 138 = .ok (.iconst 0, 1) := by decide +kernel
theorem dX11_goings_139 : decode cX11_goings 139 = .ok (.goto 14, 3) := by decide +kernel
theorem dX11_goings_142 : decode cX11_goings 142 = .ok (.iload 5, 2) := by decide +kernel
theorem dX11_goings_144 : decode cX11_goings 144 = .ok (.iload_n 3, 1) := by decide +kernel
theorem dX11_goings_145 : decode cX11_goings 145 = .ok (.if_icmp .gt 7, 3) := by decide +kernel
theorem dX11_goings_148 : decode cX11_goings 148 = .ok (.iconst 1, 1) := by decide +kernel
theorem dX11_goings_149 : decode cX11_goings 149 = .ok (.goto 4, 3) := by decide +kernel
theorem dX11_goings_152 : decode cX11_goings 152 = .ok (.iconst (-1), 1) := by decide +kernel
theorem dX11_goings_153 : decode cX11_goings 153 = .ok (.iastore, 1) := by decide +kernel
theorem dX11_goings_154 : decode cX11_goings 154 = .ok (.iinc 4 1, 3) := by decide +kernel
theorem dX11_goings_157 : decode cX11_goings 157 = .ok (.goto (-98), 3) := by decide +kernel
theorem dX11_goings_160 : decode cX11_goings 160 = .ok (.iconst 1, 1) := by decide +kernel
theorem dX11_goings_161 : decode cX11_goings 161 = .ok (.istore 4, 2) := by decide +kernel
theorem dX11_goings_163 : decode cX11_goings 163 = .ok (.iload 4, 2) := by decide +kernel
theorem dX11_goings_165 : decode cX11_goings 165 = .ok (.iload_n 2, 1) := by decide +kernel
theorem dX11_goings_166 : decode cX11_goings 166 = .ok (.if_icmp .gt 130, 3) := by decide +kernel
theorem dX11_goings_169 : decode cX11_goings 169 = .ok (.iload 4, 2) := by decide +kernel
theorem dX11_goings_171 : decode cX11_goings 171 = .ok (.iload_n 2, 1) := by decide +kernel
theorem dX11_goings_172 : decode cX11_goings 172 = .ok (.iand, 1) := by decide +kernel
theorem dX11_goings_173 : decode cX11_goings 173 = .ok (.iload 4, 2) := by decide +kernel
theorem dX11_goings_175 : decode cX11_goings 175 = .ok (.if_icmp .eq 6, 3) := by decide +kernel
theorem dX11_goings_178 : decode cX11_goings 178 = .ok (.goto 112, 3) := by decide +kernel
theorem dX11_goings_181 : decode cX11_goings 181 = .ok (.iload 4, 2) := by decide +kernel
theorem dX11_goings_183 : decode cX11_goings 183 = .ok (.iconst 1, 1) := by decide +kernel
theorem dX11_goings_184 : decode cX11_goings 184 = .ok (.isub, 1) := by decide +kernel
theorem dX11_goings_185 : decode cX11_goings 185 = .ok (.iload 4, 2) := by decide +kernel
theorem dX11_goings_187 : decode cX11_goings 187 = .ok (.iand, 1) := by decide +kernel
theorem dX11_goings_188 : decode cX11_goings 188 = .ok (.istore 5, 2) := by decide +kernel
theorem dX11_goings_190 : decode cX11_goings 190 = .ok (.iload 5, 2) := by decide +kernel
theorem dX11_goings_192 : decode cX11_goings 192 = .ok (.ifCond .le 98, 3) := by decide +kernel
theorem dX11_goings_195 : decode cX11_goings 195 = .ok (.iload 4, 2) := by decide +kernel
theorem dX11_goings_197 : decode cX11_goings 197 = .ok (.iload 5, 2) := by decide +kernel
theorem dX11_goings_199 : decode cX11_goings 199 = .ok (.iconst (-1), 1) := by decide +kernel
theorem dX11_goings_200 : decode cX11_goings 200 = .ok (.ixor, 1) := by decide +kernel
theorem dX11_goings_201 : decode cX11_goings 201 = .ok (.iand, 1) := by decide +kernel
theorem dX11_goings_202 : decode cX11_goings 202 = .ok (.istore 6, 2) := by decide +kernel
theorem dX11_goings_204 : decode cX11_goings 204 = .ok (.aload_n 0, 1) := by decide +kernel
theorem dX11_goings_205 : decode cX11_goings 205 = .ok (.getfield 225, 3) := by decide +kernel
theorem dX11_goings_208 : decode cX11_goings 208 = .ok (.iload 5, 2) := by decide +kernel
theorem dX11_goings_210 : decode cX11_goings 210 = .ok (.iaload, 1) := by decide +kernel
theorem dX11_goings_211 : decode cX11_goings 211 = .ok (.iconst (-1), 1) := by decide +kernel
theorem dX11_goings_212 : decode cX11_goings 212 = .ok (.if_icmp .eq 66, 3) := by decide +kernel
theorem dX11_goings_215 : decode cX11_goings 215 = .ok (.aload_n 0, 1) := by decide +kernel
theorem dX11_goings_216 : decode cX11_goings 216 = .ok (.getfield 225, 3) := by decide +kernel
theorem dX11_goings_219 : decode cX11_goings 219 = .ok (.iload 6, 2) := by decide +kernel
theorem dX11_goings_221 : decode cX11_goings 221 = .ok (.iaload, 1) := by decide +kernel
theorem dX11_goings_222 : decode cX11_goings 222 = .ok (.iconst (-1), 1) := by decide +kernel
theorem dX11_goings_223 : decode cX11_goings 223 = .ok (.if_icmp .ne 6, 3) := by decide +kernel
theorem dX11_goings_226 : decode cX11_goings 226 = .ok (.goto 52, 3) := by decide +kernel
theorem dX11_goings_229 : decode cX11_goings 229 = .ok (.aload_n 0, 1) := by decide +kernel
theorem dX11_goings_230 : decode cX11_goings 230 = .ok (.getfield 225, 3) := by decide +kernel
theorem dX11_goings_233 : decode cX11_goings 233 = .ok (.iload 5, 2) := by decide +kernel
theorem dX11_goings_235 : decode cX11_goings 235 = .ok (.iaload, 1) := by decide +kernel
theorem dX11_goings_236 : decode cX11_goings 236 = .ok (.aload_n 0, 1) := by decide +kernel
theorem dX11_goings_237 : decode cX11_goings 237 = .ok (.getfield 225, 3) := by decide +kernel
theorem dX11_goings_240 : decode cX11_goings 240 = .ok (.iload 6, 2) := by decide +kernel
theorem dX11_goings_242 : decode cX11_goings 242 = .ok (.iaload, 1) := by decide +kernel
theorem dX11_goings_243 : decode cX11_goings 243 = .ok (.iadd, 1) := by decide +kernel
theorem dX11_goings_244 : decode cX11_goings 244 = .ok (.istore 7, 2) := by decide +kernel
theorem dX11_goings_246 : decode cX11_goings 246 = .ok (.aload_n 0, 1) := by decide +kernel
theorem dX11_goings_247 : decode cX11_goings 247 = .ok (.getfield 225, 3) := by decide +kernel
theorem dX11_goings_250 : decode cX11_goings 250 = .ok (.iload 4, 2) := by decide +kernel
theorem dX11_goings_252 : decode cX11_goings 252 = .ok (.iaload, 1) := by decide +kernel
theorem dX11_goings_253 : decode cX11_goings 253 = .ok (.iconst (-1), 1) := by decide +kernel
theorem dX11_goings_254 : decode cX11_goings 254 = .ok (.if_icmp .eq 15, 3) := by decide +kernel
theorem dX11_goings_257 : decode cX11_goings 257 = .ok (.iload 7, 2) := by decide +kernel
theorem dX11_goings_259 : decode cX11_goings 259 = .ok (.aload_n 0, 1) := by decide +kernel
theorem dX11_goings_260 : decode cX11_goings 260 = .ok (.getfield 225, 3) := by decide +kernel
theorem dX11_goings_263 : decode cX11_goings 263 = .ok (.iload 4, 2) := by decide +kernel
theorem dX11_goings_265 : decode cX11_goings 265 = .ok (.iaload, 1) := by decide +kernel
theorem dX11_goings_266 : decode cX11_goings 266 = .ok (.if_icmp .ge 12, 3) := by decide +kernel
theorem dX11_goings_269 : decode cX11_goings 269 = .ok (.aload_n 0, 1) := by decide +kernel
theorem dX11_goings_270 : decode cX11_goings 270 = .ok (.getfield 225, 3) := by decide +kernel
theorem dX11_goings_273 : decode cX11_goings 273 = .ok (.iload 4, 2) := by decide +kernel
theorem dX11_goings_275 : decode cX11_goings 275 = .ok (.iload 7, 2) := by decide +kernel
theorem dX11_goings_277 : decode cX11_goings 277 = .ok (.iastore, 1) := by decide +kernel
theorem dX11_goings_278 : decode cX11_goings 278 = .ok (.iload 5, 2) := by decide +kernel
theorem dX11_goings_280 : decode cX11_goings 280 = .ok (.iconst 1, 1) := by decide +kernel
theorem dX11_goings_281 : decode cX11_goings 281 = .ok (.isub, 1) := by decide +kernel
theorem dX11_goings_282 : decode cX11_goings 282 = .ok (.iload 4, 2) := by decide +kernel
theorem dX11_goings_284 : decode cX11_goings 284 = .ok (.iand, 1) := by decide +kernel
theorem dX11_goings_285 : decode cX11_goings 285 = .ok (.istore 5, 2) := by decide +kernel
theorem dX11_goings_287 : decode cX11_goings 287 = .ok (.goto (-97), 3) := by decide +kernel
theorem dX11_goings_290 : decode cX11_goings 290 = .ok (.iinc 4 1, 3) := by decide +kernel
theorem dX11_goings_293 : decode cX11_goings 293 = .ok (.goto (-130), 3) := by decide +kernel
theorem dX11_goings_296 : decode cX11_goings 296 = .ok (.aload_n 0, 1) := by decide +kernel
theorem dX11_goings_297 : decode cX11_goings 297 = .ok (.getfield 225, 3) := by decide +kernel
theorem dX11_goings_300 : decode cX11_goings 300 = .ok (.iload_n 2, 1) := by decide +kernel
theorem dX11_goings_301 : decode cX11_goings 301 = .ok (.iaload, 1) := by decide +kernel
theorem dX11_goings_302 : decode cX11_goings 302 = .ok (.ireturn, 1) := by decide +kernel
theorem dX11_common_0 : decode cX11_common 0 = .ok (.aload_n 0, 1) := by decide +kernel
theorem dX11_common_1 : decode cX11_common 1 = .ok (.iload_n 1, 1) := by decide +kernel
theorem dX11_common_2 : decode cX11_common 2 = .ok (.invokevirtual 483, 3) := by decide +kernel
theorem dX11_common_5 : decode cX11_common 5 = .ok (.ifCond .eq 16, 3) := by decide +kernel
theorem dX11_common_8 : decode cX11_common 8 = .ok (.aload_n 0, 1) := by decide +kernel
theorem dX11_common_9 : decode cX11_common 9 = .ok (.iload_n 2, 1) := by decide +kernel
theorem dX11_common_10 : decode cX11_common 10 = .ok (.invokevirtual 483, 3) := by decide +kernel
theorem dX11_common_13 : decode cX11_common 13 = .ok (.ifCond .eq 8, 3) := by decide +kernel
theorem dX11_common_16 : decode cX11_common 16 = .ok (.iload_n 1, 1) := by decide +kernel
theorem dX11_common_17 : decode cX11_common 17 = .ok (.iload_n 2, 1) := by decide +kernel
theorem dX11_common_18 : decode cX11_common 18 = .ok (.if_icmp .ne 5, 3) := by decide +kernel
theorem dX11_common_21 : decode cX11_common 21 = .ok (.iconst (-1), 1) := by decide +kernel
theorem dX11_common_22 : decode cX11_common 22 = .ok (.ireturn, 1) := by decide +kernel
theorem dX11_common_23 : decode cX11_common 23 = .ok (.iconst 0, 1) := by decide +kernel
theorem dX11_common_24 : decode cX11_common 24 = .ok (.istore_n 3, 1) := by decide +kernel
theorem dX11_common_25 : decode cX11_common 25 = .ok (.iconst 0, 1) := by decide +kernel
theorem dX11_common_26 : decode cX11_common 26 = .ok (.istore 4, 2) := by decide +kernel
theorem dX11_common_28 : decode cX11_common 28 = .ok (.iload 4, 2) := by decide +kernel
theorem dX11_common_30 : decode cX11_common 30 = .ok (.bipush 26, 2) := by decide +kernel
theorem dX11_common_32 : decode cX11_common 32 = .ok (.if_icmp .ge 51, 3) := by decide +kernel
theorem dX11_common_35 : decode cX11_common 35 = .ok (.aload_n 0, 1) := by decide +kernel
theorem dX11_common_36 : decode cX11_common 36 = .ok (.iload_n 1, 1) := by decide +kernel
theorem dX11_common_37 : decode cX11_common 37 = .ok (.iload 4, 2) := by decide +kernel
theorem dX11_common_39 : decode cX11_common 39 = .ok (.invokevirtual 480, 3) := by decide +kernel
theorem dX11_common_42 : decode cX11_common 42 = .ok (.istore 5, 2) := by decide +kernel
theorem dX11_common_44 : decode cX11_common 44 = .ok (.aload_n 0, 1) := by decide +kernel
theorem dX11_common_45 : decode cX11_common 45 = .ok (.iload_n 2, 1) := by decide +kernel
theorem dX11_common_46 : decode cX11_common 46 = .ok (.iload 4, 2) := by decide +kernel
theorem dX11_common_48 : decode cX11_common 48 = .ok (.invokevirtual 480, 3) := by decide +kernel
theorem dX11_common_51 : decode cX11_common 51 = .ok (.istore 6, 2) := by decide +kernel
theorem dX11_common_53 : decode cX11_common 53 = .ok (.iload_n 3, 1) := by decide +kernel
theorem dX11_common_54 : decode cX11_common 54 = .ok (.aload_n 0, 1) := by decide +kernel
theorem dX11_common_55 : decode cX11_common 55 = .ok (.iload 4, 2) := by decide +kernel
theorem dX11_common_57 : decode cX11_common 57 = .ok (.invokevirtual 433, 3) := by decide +kernel
theorem dX11_common_60 : decode cX11_common 60 = .ok (.iload 5, 2) := by decide +kernel
theorem dX11_common_62 : decode cX11_common 62 = .ok (.iload 6, 2) := by decide +kernel
theorem dX11_common_64 : decode cX11_common 64 = .ok (.if_icmp .ge 8, 3) := by decide +kernel
theorem dX11_common_67 : decode cX11_common 67 = .ok (.iload 5, 2) := by decide +kernel
theorem dX11_common_69 : decode cX11_common 69 = .ok (.goto 5, 3) := by decide +kernel
theorem dX11_common_72 : decode cX11_common 72 = .ok (.iload 6, 2) := by decide +kernel
theorem dX11_common_74 : decode cX11_common 74 = .ok (.imul, 1) := by decide +kernel
theorem dX11_common_75 : decode cX11_common 75 = .ok (.iadd, 1) := by decide +kernel
theorem dX11_common_76 : decode cX11_common 76 = .ok (.istore_n 3, 1) := by decide +kernel
theorem dX11_common_77 : decode cX11_common 77 = .ok (.iinc 4 1, 3) := by decide +kernel
theorem dX11_common_80 : decode cX11_common 80 = .ok (.goto (-52), 3) := by decide +kernel
theorem dX11_common_83 : decode cX11_common 83 = .ok (.iload_n 3, 1) := by decide +kernel
theorem dX11_common_84 : decode cX11_common 84 = .ok (.ireturn, 1) := by decide +kernel
theorem dX11_writes_0 : decode cX11_writes 0 = .ok (.aload_n 0, 1) := by decide +kernel
theorem dX11_writes_1 : decode cX11_writes 1 = .ok (.getfield 228, 3) := by decide +kernel
theorem dX11_writes_4 : decode cX11_writes 4 = .ok (.aload_n 0, 1) := by decide +kernel
theorem dX11_writes_5 : decode cX11_writes 5 = .ok (.getfield 231, 3) := by decide +kernel
theorem dX11_writes_8 : decode cX11_writes 8 = .ok (.iload_n 1, 1) := by decide +kernel
theorem dX11_writes_9 : decode cX11_writes 9 = .ok (.sipush 255, 3) := by decide +kernel
theorem dX11_writes_12 : decode cX11_writes 12 = .ok (.iand, 1) := by decide +kernel
theorem dX11_writes_13 : decode cX11_writes 13 = .ok (.iastore, 1) := by decide +kernel
theorem dX11_writes_14 : decode cX11_writes 14 = .ok (.aload_n 0, 1) := by decide +kernel
theorem dX11_writes_15 : decode cX11_writes 15 = .ok (.dup, 1) := by decide +kernel
theorem dX11_writes_16 : decode cX11_writes 16 = .ok (.getfield 231, 3) := by decide +kernel
theorem dX11_writes_19 : decode cX11_writes 19 = .ok (.iconst 1, 1) := by decide +kernel
theorem dX11_writes_20 : decode cX11_writes 20 = .ok (.iadd, 1) := by decide +kernel
theorem dX11_writes_21 : decode cX11_writes 21 = .ok (.putfield 231, 3) := by decide +kernel
theorem dX11_writes_24 : decode cX11_writes 24 = .ok (.return_, 1) := by decide +kernel
theorem dX11_writes2_0 : decode cX11_writes2 0 = .ok (.aload_n 0, 1) := by decide +kernel
theorem dX11_writes2_1 : decode cX11_writes2 1 = .ok (.iload_n 1, 1) := by decide +kernel
theorem dX11_writes2_2 : decode cX11_writes2 2 = .ok (.bipush 8, 2) := by decide +kernel
theorem dX11_writes2_4 : decode cX11_writes2 4 = .ok (.ishr, 1) := by decide +kernel
theorem dX11_writes2_5 : decode cX11_writes2 5 = .ok (.invokevirtual 579, 3) := by decide +kernel
theorem dX11_writes2_8 : decode cX11_writes2 8 = .ok (.aload_n 0, 1) := by decide +kernel
theorem dX11_writes2_9 : decode cX11_writes2 9 = .ok (.iload_n 1, 1) := by decide +kernel
theorem dX11_writes2_10 : decode cX11_writes2 10 = .ok (.invokevirtual 579, 3) := by decide +kernel
theorem dX11_writes2_13 : decode cX11_writes2 13 = .ok (.return_, 1) := by decide +kernel
theorem dX11_image_0 : decode cX11_image 0 = .ok (.aload_n 0, 1) := by decide +kernel
theorem dX11_image_1 : decode cX11_image 1 = .ok (.iconst 0, 1) := by decide +kernel
theorem dX11_image_2 : decode cX11_image 2 = .ok (.putfield 231, 3) := by decide +kernel
theorem dX11_image_5 : decode cX11_image 5 = .ok (.aload_n 0, 1) := by decide +kernel
theorem dX11_image_6 : decode cX11_image 6 = .ok (.aload_n 0, 1) := by decide +kernel
theorem dX11_image_7 : decode cX11_image 7 = .ok (.getfield 171, 3) := by decide +kernel
theorem dX11_image_10 : decode cX11_image 10 = .ok (.invokevirtual 582, 3) := by decide +kernel
theorem dX11_image_13 : decode cX11_image 13 = .ok (.iconst 0, 1) := by decide +kernel
theorem dX11_image_14 : decode cX11_image 14 = .ok (.istore_n 1, 1) := by decide +kernel
theorem dX11_image_15 : decode cX11_image 15 = .ok (.iload_n 1, 1) := by decide +kernel
theorem dX11_image_16 : decode cX11_image 16 = .ok (.aload_n 0, 1) := by decide +kernel
theorem dX11_image_17 : decode cX11_image 17 = .ok (.getfield 54, 3) := by decide +kernel
theorem dX11_image_20 : decode cX11_image 20 = .ok (.aload_n 0, 1) := by decide +kernel
theorem dX11_image_21 : decode cX11_image 21 = .ok (.getfield 48, 3) := by decide +kernel
theorem dX11_image_24 : decode cX11_image 24 = .ok (.iaload, 1) := by decide +kernel
theorem dX11_image_25 : decode cX11_image 25 = .ok (.if_icmp .ge 48, 3) := by decide +kernel
theorem dX11_image_28 : decode cX11_image 28 = .ok (.aload_n 0, 1) := by decide +kernel
theorem dX11_image_29 : decode cX11_image 29 = .ok (.aload_n 0, 1) := by decide +kernel
theorem dX11_image_30 : decode cX11_image 30 = .ok (.getfield 174, 3) := by decide +kernel
theorem dX11_image_33 : decode cX11_image 33 = .ok (.iload_n 1, 1) := by decide +kernel
theorem dX11_image_34 : decode cX11_image 34 = .ok (.iaload, 1) := by decide +kernel
theorem dX11_image_35 : decode cX11_image 35 = .ok (.invokevirtual 582, 3) := by decide +kernel
theorem dX11_image_38 : decode cX11_image 38 = .ok (.iconst 0, 1) := by decide +kernel
theorem dX11_image_39 : decode cX11_image 39 = .ok (.istore_n 2, 1) := by decide +kernel
theorem dX11_image_40 : decode cX11_image 40 = .ok (.iload_n 2, 1) := by decide +kernel
theorem dX11_image_41 : decode cX11_image 41 = .ok (.bipush 26, 2) := by decide +kernel
theorem dX11_image_43 : decode cX11_image 43 = .ok (.if_icmp .ge 24, 3) := by decide +kernel
theorem dX11_image_46 : decode cX11_image 46 = .ok (.aload_n 0, 1) := by decide +kernel
theorem dX11_image_47 : decode cX11_image 47 = .ok (.aload_n 0, 1) := by decide +kernel
theorem dX11_image_48 : decode cX11_image 48 = .ok (.getfield 177, 3) := by decide +kernel
theorem dX11_image_51 : decode cX11_image 51 = .ok (.bipush 26, 2) := by decide +kernel
theorem dX11_image_53 : decode cX11_image 53 = .ok (.iload_n 1, 1) := by decide +kernel
theorem dX11_image_54 : decode cX11_image 54 = .ok (.imul, 1) := by decide +kernel
theorem dX11_image_55 : decode cX11_image 55 = .ok (.iload_n 2, 1) := by decide +kernel
theorem dX11_image_56 : decode cX11_image 56 = .ok (.iadd, 1) := by decide +kernel
theorem dX11_image_57 : decode cX11_image 57 = .ok (.iaload, 1) := by decide +kernel
theorem dX11_image_58 : decode cX11_image 58 = .ok (.invokevirtual 582, 3) := by decide +kernel
theorem dX11_image_61 : decode cX11_image 61 = .ok (.iinc 2 1, 3) := by decide +kernel
theorem dX11_image_64 : decode cX11_image 64 = .ok (.goto (-24), 3) := by decide +kernel
theorem dX11_image_67 : decode cX11_image 67 = .ok (.iinc 1 1, 3) := by decide +kernel
theorem dX11_image_70 : decode cX11_image 70 = .ok (.goto (-55), 3) := by decide +kernel
theorem dX11_image_73 : decode cX11_image 73 = .ok (.iconst 0, 1) := by decide +kernel
theorem dX11_image_74 : decode cX11_image 74 = .ok (.istore_n 1, 1) := by decide +kernel
theorem dX11_image_75 : decode cX11_image 75 = .ok (.iload_n 1, 1) := by decide +kernel
theorem dX11_image_76 : decode cX11_image 76 = .ok (.bipush 26, 2) := by decide +kernel
theorem dX11_image_78 : decode cX11_image 78 = .ok (.if_icmp .ge 23, 3) := by decide +kernel
theorem dX11_image_81 : decode cX11_image 81 = .ok (.aload_n 0, 1) := by decide +kernel
theorem dX11_image_82 : decode cX11_image 82 = .ok (.aload_n 0, 1) := by decide +kernel
theorem dX11_image_83 : decode cX11_image 83 = .ok (.getfield 177, 3) := by decide +kernel
theorem dX11_image_86 : decode cX11_image 86 = .ok (.sipush 208, 3) := by decide +kernel
theorem dX11_image_89 : decode cX11_image 89 = .ok (.iload_n 1, 1) := by decide +kernel
theorem dX11_image_90 : decode cX11_image 90 = .ok (.iadd, 1) := by decide +kernel
theorem dX11_image_91 : decode cX11_image 91 = .ok (.iaload, 1) := by decide +kernel
theorem dX11_image_92 : decode cX11_image 92 = .ok (.invokevirtual 582, 3) := by decide +kernel
theorem dX11_image_95 : decode cX11_image 95 = .ok (.iinc 1 1, 3) := by decide +kernel
theorem dX11_image_98 : decode cX11_image 98 = .ok (.goto (-23), 3) := by decide +kernel
theorem dX11_image_101 : decode cX11_image 101 = .ok (.aload_n 0, 1) := by decide +kernel
theorem dX11_image_102 : decode cX11_image 102 = .ok (.aload_n 0, 1) := by decide +kernel
theorem dX11_image_103 : decode cX11_image 103 = .ok (.getfield 180, 3) := by decide +kernel
theorem dX11_image_106 : decode cX11_image 106 = .ok (.bipush 16, 2) := by decide +kernel
theorem dX11_image_108 : decode cX11_image 108 = .ok (.ishr, 1) := by decide +kernel
theorem dX11_image_109 : decode cX11_image 109 = .ok (.invokevirtual 579, 3) := by decide +kernel
theorem dX11_image_112 : decode cX11_image 112 = .ok (.aload_n 0, 1) := by decide +kernel
theorem dX11_image_113 : decode cX11_image 113 = .ok (.aload_n 0, 1) := by decide +kernel
theorem dX11_image_114 : decode cX11_image 114 = .ok (.getfield 180, 3) := by decide +kernel
theorem dX11_image_117 : decode cX11_image 117 = .ok (.invokevirtual 582, 3) := by decide +kernel
theorem dX11_image_120 : decode cX11_image 120 = .ok (.aload_n 0, 1) := by decide +kernel
theorem dX11_image_121 : decode cX11_image 121 = .ok (.aload_n 0, 1) := by decide +kernel
theorem dX11_image_122 : decode cX11_image 122 = .ok (.getfield 195, 3) := by decide +kernel
theorem dX11_image_125 : decode cX11_image 125 = .ok (.invokevirtual 579, 3) := by decide +kernel
theorem dX11_image_128 : decode cX11_image 128 = .ok (.iconst 0, 1) := by decide +kernel
theorem dX11_image_129 : decode cX11_image 129 = .ok (.istore_n 1, 1) := by decide +kernel
theorem dX11_image_130 : decode cX11_image 130 = .ok (.iload_n 1, 1) := by decide +kernel
theorem dX11_image_131 : decode cX11_image 131 = .ok (.aload_n 0, 1) := by decide +kernel
theorem dX11_image_132 : decode cX11_image 132 = .ok (.getfield 195, 3) := by decide +kernel
theorem dX11_image_135 : decode cX11_image 135 = .ok (.if_icmp .ge 19, 3) := by decide +kernel
theorem dX11_image_138 : decode cX11_image 138 = .ok (.aload_n 0, 1) := by decide +kernel
theorem dX11_image_139 : decode cX11_image 139 = .ok (.aload_n 0, 1) := by decide +kernel
theorem dX11_image_140 : decode cX11_image 140 = .ok (.getfield 198, 3) := by decide +kernel
theorem dX11_image_143 : decode cX11_image 143 = .ok (.iload_n 1, 1) := by decide +kernel
theorem dX11_image_144 : decode cX11_image 144 = .ok (.iaload, 1) := by decide +kernel
theorem dX11_image_145 : decode cX11_image 145 = .ok (.invokevirtual 582, 3) := by decide +kernel
theorem dX11_image_148 : decode cX11_image 148 = .ok (.iinc 1 1, 3) := by decide +kernel
theorem dX11_image_151 : decode cX11_image 151 = .ok (.goto (-21), 3) := by decide +kernel
theorem dX11_image_154 : decode cX11_image 154 = .ok (.bipush 41, 2) := by decide +kernel
theorem dX11_image_156 : decode cX11_image 156 = .ok (.istore_n 1, 1) := by decide +kernel
theorem dX11_image_157 : decode cX11_image 157 = .ok (.iconst 0, 1) := by decide +kernel
theorem dX11_image_158 : decode cX11_image 158 = .ok (.istore_n 2, 1) := by decide +kernel
theorem dX11_image_159 : decode cX11_image 159 = .ok (.iload_n 2, 1) := by decide +kernel
theorem dX11_image_160 : decode cX11_image 160 = .ok (.aload_n 0, 1) := by decide +kernel
theorem dX11_image_161 : decode cX11_image 161 = .ok (.getfield 231, 3) := by decide +kernel
theorem dX11_image_164 : decode cX11_image 164 = .ok (.if_icmp .ge 24, 3) := by decide +kernel
theorem dX11_image_167 : decode cX11_image 167 = .ok (.iconst 3, 1) := by decide +kernel
theorem dX11_image_168 : decode cX11_image 168 = .ok (.iload_n 1, 1) := by decide +kernel
theorem dX11_image_169 : decode cX11_image 169 = .ok (.imul, 1) := by decide +kernel
theorem dX11_image_170 : decode cX11_image 170 = .ok (.aload_n 0, 1) := by decide +kernel
theorem dX11_image_171 : decode cX11_image 171 = .ok (.getfield 228, 3) := by decide +kernel
theorem dX11_image_174 : decode cX11_image 174 = .ok (.iload_n 2, 1) := by decide +kernel
theorem dX11_image_175 : decode cX11_image 175 = .ok (.iaload, 1) := by decide +kernel
theorem dX11_image_176 : decode cX11_image 176 = .ok (.iadd, 1) := by decide +kernel
theorem dX11_image_177 : decode cX11_image 177 = .ok (.sipush 239, 3) := by decide +kernel
theorem dX11_image_180 : decode cX11_image 180 = .ok (.irem, 1) := by decide +kernel
theorem dX11_image_181 : decode cX11_image 181 = .ok (.istore_n 1, 1) := by decide +kernel
theorem dX11_image_182 : decode cX11_image 182 = .ok (.iinc 2 1, 3) := by decide +kernel
theorem dX11_image_185 : decode cX11_image 185 = .ok (.goto (-26), 3) := by decide +kernel
theorem dX11_image_188 : decode cX11_image 188 = .ok (.aload_n 0, 1) := by decide +kernel
theorem dX11_image_189 : decode cX11_image 189 = .ok (.iload_n 1, 1) := by decide +kernel
theorem dX11_image_190 : decode cX11_image 190 = .ok (.invokevirtual 579, 3) := by decide +kernel
theorem dX11_image_193 : decode cX11_image 193 = .ok (.aload_n 0, 1) := by decide +kernel
theorem dX11_image_194 : decode cX11_image 194 = .ok (.getfield 231, 3) := by decide +kernel
theorem dX11_image_197 : decode cX11_image 197 = .ok (.ireturn, 1) := by decide +kernel
theorem dX11_octet_0 : decode cX11_octet 0 = .ok (.iload_n 1, 1) := by decide +kernel
theorem dX11_octet_1 : decode cX11_octet 1 = .ok (.ifCond .lt 20, 3) := by decide +kernel
theorem dX11_octet_4 : decode cX11_octet 4 = .ok (.iload_n 1, 1) := by decide +kernel
theorem dX11_octet_5 : decode cX11_octet 5 = .ok (.aload_n 0, 1) := by decide +kernel
theorem dX11_octet_6 : decode cX11_octet 6 = .ok (.getfield 231, 3) := by decide +kernel
theorem dX11_octet_9 : decode cX11_octet 9 = .ok (.if_icmp .ge 12, 3) := by decide +kernel
theorem dX11_octet_12 : decode cX11_octet 12 = .ok (.aload_n 0, 1) := by decide +kernel
theorem dX11_octet_13 : decode cX11_octet 13 = .ok (.getfield 228, 3) := by decide +kernel
theorem dX11_octet_16 : decode cX11_octet 16 = .ok (.iload_n 1, 1) := by decide +kernel
theorem dX11_octet_17 : decode cX11_octet 17 = .ok (.iaload, 1) := by decide +kernel
theorem dX11_octet_18 : decode cX11_octet 18 = .ok (.goto 4, 3) := by decide +kernel
theorem dX11_octet_21 : decode cX11_octet 21 = .ok (.iconst (-1), 1) := by decide +kernel
theorem dX11_octet_22 : decode cX11_octet 22 = .ok (.ireturn, 1) := by decide +kernel
theorem dX11_two_0 : decode cX11_two 0 = .ok (.sipush 256, 3) := by decide +kernel
theorem dX11_two_3 : decode cX11_two 3 = .ok (.aload_n 0, 1) := by decide +kernel
theorem dX11_two_4 : decode cX11_two 4 = .ok (.getfield 7, 3) := by decide +kernel
theorem dX11_two_7 : decode cX11_two 7 = .ok (.iload_n 1, 1) := by decide +kernel
theorem dX11_two_8 : decode cX11_two 8 = .ok (.iaload, 1) := by decide +kernel
theorem dX11_two_9 : decode cX11_two 9 = .ok (.imul, 1) := by decide +kernel
theorem dX11_two_10 : decode cX11_two 10 = .ok (.aload_n 0, 1) := by decide +kernel
theorem dX11_two_11 : decode cX11_two 11 = .ok (.getfield 7, 3) := by decide +kernel
theorem dX11_two_14 : decode cX11_two 14 = .ok (.iload_n 1, 1) := by decide +kernel
theorem dX11_two_15 : decode cX11_two 15 = .ok (.iconst 1, 1) := by decide +kernel
theorem dX11_two_16 : decode cX11_two 16 = .ok (.iadd, 1) := by decide +kernel
theorem dX11_two_17 : decode cX11_two 17 = .ok (.iaload, 1) := by decide +kernel
theorem dX11_two_18 : decode cX11_two 18 = .ok (.iadd, 1) := by decide +kernel
theorem dX11_two_19 : decode cX11_two 19 = .ok (.ireturn, 1) := by decide +kernel
theorem dX11_rowAt_0 : decode cX11_rowAt 0 = .ok (.lconst 0, 1) := by decide +kernel
theorem dX11_rowAt_1 : decode cX11_rowAt 1 = .ok (.lstore_n 3, 1) := by decide +kernel
theorem dX11_rowAt_2 : decode cX11_rowAt 2 = .ok (.iconst 0, 1) := by decide +kernel
theorem dX11_rowAt_3 : decode cX11_rowAt 3 = .ok (.istore 5, 2) := by decide +kernel
theorem dX11_rowAt_5 : decode cX11_rowAt 5 = .ok (.iload 5, 2) := by decide +kernel
theorem dX11_rowAt_7 : decode cX11_rowAt 7 = .ok (.bipush 26, 2) := by decide +kernel
theorem dX11_rowAt_9 : decode cX11_rowAt 9 = .ok (.if_icmp .ge 39, 3) := by decide +kernel
theorem dX11_rowAt_12 : decode cX11_rowAt 12 = .ok (.lload_n 3, 1) := by decide +kernel
theorem dX11_rowAt_13 : decode cX11_rowAt 13 = .ok (.aload_n 0, 1) := by decide +kernel
theorem dX11_rowAt_14 : decode cX11_rowAt 14 = .ok (.iload_n 1, 1) := by decide +kernel
theorem dX11_rowAt_15 : decode cX11_rowAt 15 = .ok (.iconst 2, 1) := by decide +kernel
theorem dX11_rowAt_16 : decode cX11_rowAt 16 = .ok (.iload 5, 2) := by decide +kernel
theorem dX11_rowAt_18 : decode cX11_rowAt 18 = .ok (.imul, 1) := by decide +kernel
theorem dX11_rowAt_19 : decode cX11_rowAt 19 = .ok (.iadd, 1) := by decide +kernel
theorem dX11_rowAt_20 : decode cX11_rowAt 20 = .ok (.invokevirtual 585, 3) := by decide +kernel
theorem dX11_rowAt_23 : decode cX11_rowAt 23 = .ok (.i2l, 1) := by decide +kernel
theorem dX11_rowAt_24 : decode cX11_rowAt 24 = .ok (.iload_n 2, 1) := by decide +kernel
theorem dX11_rowAt_25 : decode cX11_rowAt 25 = .ok (.ifCond .eq 12, 3) := by decide +kernel
theorem dX11_rowAt_28 : decode cX11_rowAt 28 = .ok (.aload_n 0, 1) := by decide +kernel
theorem dX11_rowAt_29 : decode cX11_rowAt 29 = .ok (.iload 5, 2) := by decide +kernel
theorem dX11_rowAt_31 : decode cX11_rowAt 31 = .ok (.invokevirtual 433, 3) := by decide +kernel
theorem dX11_rowAt_34 : decode cX11_rowAt 34 = .ok (.goto 4, 3) := by decide +kernel
theorem dX11_rowAt_37 : decode cX11_rowAt 37 = .ok (.iconst 1, 1) := by decide +kernel
theorem dX11_rowAt_38 : decode cX11_rowAt 38 = .ok (.i2l, 1) := by decide +kernel
theorem dX11_rowAt_39 : decode cX11_rowAt 39 = .ok (.lmul, 1) := by decide +kernel
theorem dX11_rowAt_40 : decode cX11_rowAt 40 = .ok (.ladd, 1) := by decide +kernel
theorem dX11_rowAt_41 : decode cX11_rowAt 41 = .ok (.lstore_n 3, 1) := by decide +kernel
theorem dX11_rowAt_42 : decode cX11_rowAt 42 = .ok (.iinc 5 1, 3) := by decide +kernel
theorem dX11_rowAt_45 : decode cX11_rowAt 45 = .ok (.goto (-40), 3) := by decide +kernel
theorem dX11_rowAt_48 : decode cX11_rowAt 48 = .ok (.lload_n 3, 1) := by decide +kernel
theorem dX11_rowAt_49 : decode cX11_rowAt 49 = .ok (.lreturn, 1) := by decide +kernel
theorem dX11_isWhole_0 : decode cX11_isWhole 0 = .ok (.iconst 2, 1) := by decide +kernel
theorem dX11_isWhole_1 : decode cX11_isWhole 1 = .ok (.bipush 54, 2) := by decide +kernel
theorem dX11_isWhole_3 : decode cX11_isWhole 3 = .ok (.aload_n 0, 1) := by decide +kernel
theorem dX11_isWhole_4 : decode cX11_isWhole 4 = .ok (.getfield 54, 3) := by decide +kernel
theorem dX11_isWhole_7 : decode cX11_isWhole 7 = .ok (.aload_n 0, 1) := by decide +kernel
theorem dX11_isWhole_8 : decode cX11_isWhole 8 = .ok (.getfield 48, 3) := by decide +kernel
theorem dX11_isWhole_11 : decode cX11_isWhole 11 = .ok (.iaload, 1) := by decide +kernel
theorem dX11_isWhole_12 : decode cX11_isWhole 12 = .ok (.imul, 1) := by decide +kernel
theorem dX11_isWhole_13 : decode cX11_isWhole 13 = .ok (.iadd, 1) := by decide +kernel
theorem dX11_isWhole_14 : decode cX11_isWhole 14 = .ok (.istore_n 2, 1) := by decide +kernel
theorem dX11_isWhole_15 : decode cX11_isWhole 15 = .ok (.iload_n 1, 1) := by decide +kernel
theorem dX11_isWhole_16 : decode cX11_isWhole 16 = .ok (.iload_n 2, 1) := by decide +kernel
theorem dX11_isWhole_17 : decode cX11_isWhole 17 = .ok (.bipush 57, 2) := by decide +kernel
theorem dX11_isWhole_19 : decode cX11_isWhole 19 = .ok (.iadd, 1) := by decide +kernel
theorem dX11_isWhole_20 : decode cX11_isWhole 20 = .ok (.if_icmp .lt 14, 3) := by decide +kernel
theorem dX11_isWhole_23 : decode cX11_isWhole 23 = .ok (.aload_n 0, 1) := by decide +kernel
theorem dX11_isWhole_24 : decode cX11_isWhole 24 = .ok (.iconst 0, 1) := by decide +kernel
theorem dX11_isWhole_25 : decode cX11_isWhole 25 = .ok (.invokevirtual 585, 3) := by decide +kernel
theorem dX11_isWhole_28 : decode cX11_isWhole 28 = .ok (.sipush 999, 3) := by decide +kernel
theorem dX11_isWhole_31 : decode cX11_isWhole 31 = .ok (.if_icmp .le 5, 3) := by decide +kernel
theorem dX11_isWhole_34 : decode cX11_isWhole 34 = .ok (.iconst 0, 1) := by decide +kernel
theorem dX11_isWhole_35 : decode cX11_isWhole 35 = .ok (.ireturn, 1) := by decide +kernel
theorem dX11_isWhole_36 : decode cX11_isWhole 36 = .ok (.aload_n 0, 1) := by decide +kernel
theorem dX11_isWhole_37 : decode cX11_isWhole 37 = .ok (.getfield 7, 3) := by decide +kernel
theorem dX11_isWhole_40 : decode cX11_isWhole 40 = .ok (.iload_n 2, 1) := by decide +kernel
theorem dX11_isWhole_41 : decode cX11_isWhole 41 = .ok (.bipush 55, 2) := by decide +kernel
theorem dX11_isWhole_43 : decode cX11_isWhole 43 = .ok (.iadd, 1) := by decide +kernel
theorem dX11_isWhole_44 : decode cX11_isWhole 44 = .ok (.iaload, 1) := by decide +kernel
theorem dX11_isWhole_45 : decode cX11_isWhole 45 = .ok (.istore_n 3, 1) := by decide +kernel
theorem dX11_isWhole_46 : decode cX11_isWhole 46 = .ok (.iload_n 3, 1) := by decide +kernel
theorem dX11_isWhole_47 : decode cX11_isWhole 47 = .ok (.bipush 30, 2) := by decide +kernel
theorem dX11_isWhole_49 : decode cX11_isWhole 49 = .ok (.if_icmp .gt 15, 3) := by decide +kernel
theorem dX11_isWhole_52 : decode cX11_isWhole 52 = .ok (.iload_n 1, 1) := by decide +kernel
theorem dX11_isWhole_53 : decode cX11_isWhole 53 = .ok (.iload_n 2, 1) := by decide +kernel
theorem dX11_isWhole_54 : decode cX11_isWhole 54 = .ok (.bipush 57, 2) := by decide +kernel
theorem dX11_isWhole_56 : decode cX11_isWhole 56 = .ok (.iadd, 1) := by decide +kernel
theorem dX11_isWhole_57 : decode cX11_isWhole 57 = .ok (.iconst 2, 1) := by decide +kernel
theorem dX11_isWhole_58 : decode cX11_isWhole 58 = .ok (.iload_n 3, 1) := by decide +kernel
theorem dX11_isWhole_59 : decode cX11_isWhole 59 = .ok (.imul, 1) := by decide +kernel
theorem dX11_isWhole_60 : decode cX11_isWhole 60 = .ok (.iadd, 1) := by decide +kernel
theorem dX11_isWhole_61 : decode cX11_isWhole 61 = .ok (.if_icmp .eq 5, 3) := by decide +kernel
theorem dX11_isWhole_64 : decode cX11_isWhole 64 = .ok (.iconst 0, 1) := by decide +kernel
theorem dX11_isWhole_65 : decode cX11_isWhole 65 = .ok (.ireturn, 1) := by decide +kernel
theorem dX11_isWhole_66 : decode cX11_isWhole 66 = .ok (.bipush 41, 2) := by decide +kernel
theorem dX11_isWhole_68 : decode cX11_isWhole 68 = .ok (.istore 4, 2) := by decide +kernel
theorem dX11_isWhole_70 : decode cX11_isWhole 70 = .ok (.iconst 0, 1) := by decide +kernel
theorem dX11_isWhole_71 : decode cX11_isWhole 71 = .ok (.istore 5, 2) := by decide +kernel
theorem dX11_isWhole_73 : decode cX11_isWhole 73 = .ok (.iload 5, 2) := by decide +kernel
theorem dX11_isWhole_75 : decode cX11_isWhole 75 = .ok (.iload_n 1, 1) := by decide +kernel
theorem dX11_isWhole_76 : decode cX11_isWhole 76 = .ok (.iconst 1, 1) := by decide +kernel
theorem dX11_isWhole_77 : decode cX11_isWhole 77 = .ok (.isub, 1) := by decide +kernel
theorem dX11_isWhole_78 : decode cX11_isWhole 78 = .ok (.if_icmp .ge 27, 3) := by decide +kernel
theorem dX11_isWhole_81 : decode cX11_isWhole 81 = .ok (.iconst 3, 1) := by decide +kernel
theorem dX11_isWhole_82 : decode cX11_isWhole 82 = .ok (.iload 4, 2) := by decide +kernel
theorem dX11_isWhole_84 : decode cX11_isWhole 84 = .ok (.imul, 1) := by decide +kernel
theorem dX11_isWhole_85 : decode cX11_isWhole 85 = .ok (.aload_n 0, 1) := by decide +kernel
theorem dX11_isWhole_86 : decode cX11_isWhole 86 = .ok (.getfield 7, 3) := by decide +kernel
theorem dX11_isWhole_89 : decode cX11_isWhole 89 = .ok (.iload 5, 2) := by decide +kernel
theorem dX11_isWhole_91 : decode cX11_isWhole 91 = .ok (.iaload, 1) := by decide +kernel
theorem dX11_isWhole_92 : decode cX11_isWhole 92 = .ok (.iadd, 1) := by decide +kernel
theorem dX11_isWhole_93 : decode cX11_isWhole 93 = .ok (.sipush 239, 3) := by decide +kernel
theorem dX11_isWhole_96 : decode cX11_isWhole 96 = .ok (.irem, 1) := by decide +kernel
theorem dX11_isWhole_97 : decode cX11_isWhole 97 = .ok (.istore 4, 2) := by decide +kernel
theorem dX11_isWhole_99 : decode cX11_isWhole 99 = .ok (.iinc 5 1, 3) := by decide +kernel
theorem dX11_isWhole_102 : decode cX11_isWhole 102 = .ok (.goto (-29), 3) := by decide +kernel
theorem dX11_isWhole_105 : decode cX11_isWhole 105 = .ok (.aload_n 0, 1) := by decide +kernel
theorem dX11_isWhole_106 : decode cX11_isWhole 106 = .ok (.getfield 7, 3) := by decide +kernel
theorem dX11_isWhole_109 : decode cX11_isWhole 109 = .ok (.iload_n 1, 1) := by decide +kernel
theorem dX11_isWhole_110 : decode cX11_isWhole 110 = .ok (.iconst 1, 1) := by decide +kernel
theorem dX11_isWhole_111 : decode cX11_isWhole 111 = .ok (.isub, 1) := by decide +kernel
theorem dX11_isWhole_112 : decode cX11_isWhole 112 = .ok (.iaload, 1) := by decide +kernel
theorem dX11_isWhole_113 : decode cX11_isWhole 113 = .ok (.iload 4, 2) := by decide +kernel
theorem dX11_isWhole_115 : decode cX11_isWhole 115 = .ok (.if_icmp .eq 5, 3) := by decide +kernel
theorem dX11_isWhole_118 : decode cX11_isWhole 118 = .ok (.iconst 0, 1) := by decide +kernel
theorem dX11_isWhole_119 : decode cX11_isWhole 119 = .ok (.ireturn, 1) := by decide +kernel
theorem dX11_isWhole_120 : decode cX11_isWhole 120 = .ok (.aload_n 0, 1) := by decide +kernel
theorem dX11_isWhole_121 : decode cX11_isWhole 121 = .ok (.iload_n 2, 1) := by decide +kernel
theorem dX11_isWhole_122 : decode cX11_isWhole 122 = .ok (.iconst 1, 1) := by decide +kernel
theorem dX11_isWhole_123 : decode cX11_isWhole 123 = .ok (.invokevirtual 588, 3) := by decide +kernel
theorem dX11_isWhole_126 : decode cX11_isWhole 126 = .ok (.ldc2_w 592, 3) := by decide +kernel
theorem dX11_isWhole_129 : decode cX11_isWhole 129 = .ok (.aload_n 0, 1) := by decide +kernel
theorem dX11_isWhole_130 : decode cX11_isWhole 130 = .ok (.getfield 7, 3) := by decide +kernel
theorem dX11_isWhole_133 : decode cX11_isWhole 133 = .ok (.iload_n 2, 1) := by decide +kernel
theorem dX11_isWhole_134 : decode cX11_isWhole 134 = .ok (.bipush 52, 2) := by decide +kernel
theorem dX11_isWhole_136 : decode cX11_isWhole 136 = .ok (.iadd, 1) := by decide +kernel
theorem dX11_isWhole_137 : decode cX11_isWhole 137 = .ok (.iaload, 1) := by decide +kernel
theorem dX11_isWhole_138 : decode cX11_isWhole 138 = .ok (.i2l, 1) := by decide +kernel
theorem dX11_isWhole_139 : decode cX11_isWhole 139 = .ok (.lmul, 1) := by decide +kernel
theorem dX11_isWhole_140 : decode cX11_isWhole 140 = .ok (.ladd, 1) := by decide +kernel
theorem dX11_isWhole_141 : decode cX11_isWhole 141 = .ok (.aload_n 0, 1) := by decide +kernel
theorem dX11_isWhole_142 : decode cX11_isWhole 142 = .ok (.iload_n 2, 1) := by decide +kernel
theorem dX11_isWhole_143 : decode cX11_isWhole 143 = .ok (.bipush 53, 2) := by decide +kernel
theorem dX11_isWhole_145 : decode cX11_isWhole 145 = .ok (.iadd, 1) := by decide +kernel
theorem dX11_isWhole_146 : decode cX11_isWhole 146 = .ok (.invokevirtual 585, 3) := by decide +kernel
theorem dX11_isWhole_149 : decode cX11_isWhole 149 = .ok (.i2l, 1) := by decide +kernel
theorem dX11_isWhole_150 : decode cX11_isWhole 150 = .ok (.ladd, 1) := by decide +kernel
theorem dX11_isWhole_151 : decode cX11_isWhole 151 = .ok (.lstore 5, 2) := by decide +kernel
theorem dX11_isWhole_153 : decode cX11_isWhole 153 = .ok (.aload_n 0, 1) := by decide +kernel
theorem dX11_isWhole_154 : decode cX11_isWhole 154 = .ok (.iload_n 2, 1) := by decide +kernel
theorem dX11_isWhole_155 : decode cX11_isWhole 155 = .ok (.iconst 0, 1) := by decide +kernel
theorem dX11_isWhole_156 : decode cX11_isWhole 156 = .ok (.invokevirtual 588, 3) := by decide +kernel
theorem dX11_isWhole_159 : decode cX11_isWhole 159 = .ok (.lstore 7, 2) := by decide +kernel
theorem dX11_isWhole_161 : decode cX11_isWhole 161 = .ok (.iconst 0, 1) := by decide +kernel
theorem dX11_isWhole_162 : decode cX11_isWhole 162 = .ok (.istore 9, 2) := by decide +kernel
theorem dX11_isWhole_164 : decode cX11_isWhole 164 = .ok (.iload 9, 2) := by decide +kernel
theorem dX11_isWhole_166 : decode cX11_isWhole 166 = .ok (.aload_n 0, 1) := by decide +kernel
theorem dX11_isWhole_167 : decode cX11_isWhole 167 = .ok (.getfield 54, 3) := by decide +kernel
theorem dX11_isWhole_170 : decode cX11_isWhole 170 = .ok (.aload_n 0, 1) := by decide +kernel
theorem dX11_isWhole_171 : decode cX11_isWhole 171 = .ok (.getfield 48, 3) := by decide +kernel
theorem dX11_isWhole_174 : decode cX11_isWhole 174 = .ok (.iaload, 1) := by decide +kernel
theorem dX11_isWhole_175 : decode cX11_isWhole 175 = .ok (.if_icmp .ge 133, 3) := by decide +kernel
theorem dX11_isWhole_178 : decode cX11_isWhole 178 = .ok (.aload_n 0, 1) := by decide +kernel
theorem dX11_isWhole_179 : decode cX11_isWhole 179 = .ok (.iconst 2, 1) := by decide +kernel
theorem dX11_isWhole_180 : decode cX11_isWhole 180 = .ok (.bipush 54, 2) := by decide +kernel
theorem dX11_isWhole_182 : decode cX11_isWhole 182 = .ok (.iload 9, 2) := by decide +kernel
theorem dX11_isWhole_184 : decode cX11_isWhole 184 = .ok (.imul, 1) := by decide +kernel
theorem dX11_isWhole_185 : decode cX11_isWhole 185 = .ok (.iadd, 1) := by decide +kernel
theorem dX11_isWhole_186 : decode cX11_isWhole 186 = .ok (.invokevirtual 585, 3) := by decide +kernel
theorem dX11_isWhole_189 : decode cX11_isWhole 189 = .ok (.istore 10, 2) := by decide +kernel
theorem dX11_isWhole_191 : decode cX11_isWhole 191 = .ok (.iload 10, 2) := by decide +kernel
theorem dX11_isWhole_193 : decode cX11_isWhole 193 = .ok (.iconst 1, 1) := by decide +kernel
theorem dX11_isWhole_194 : decode cX11_isWhole 194 = .ok (.aload_n 0, 1) := by decide +kernel
theorem dX11_isWhole_195 : decode cX11_isWhole 195 = .ok (.getfield 73, 3) := by decide +kernel
theorem dX11_isWhole_198 : decode cX11_isWhole 198 = .ok (.aload_n 0, 1) := by decide +kernel
theorem dX11_isWhole_199 : decode cX11_isWhole 199 = .ok (.getfield 48, 3) := by decide +kernel
theorem dX11_isWhole_202 : decode cX11_isWhole 202 = .ok (.iaload, 1) := by decide +kernel
theorem dX11_isWhole_203 : decode cX11_isWhole 203 = .ok (.ishl, 1) := by decide +kernel
theorem dX11_isWhole_204 : decode cX11_isWhole 204 = .ok (.if_icmp .lt 5, 3) := by decide +kernel
theorem dX11_isWhole_207 : decode cX11_isWhole 207 = .ok (.iconst 0, 1) := by decide +kernel
theorem dX11_isWhole_208 : decode cX11_isWhole 208 = .ok (.ireturn, 1) := by decide +kernel
theorem dX11_isWhole_209 : decode cX11_isWhole 209 = .ok (.lload 5, 2) := by decide +kernel
theorem dX11_isWhole_211 : decode cX11_isWhole 211 = .ok (.aload_n 0, 1) := by decide +kernel
theorem dX11_isWhole_212 : decode cX11_isWhole 212 = .ok (.iload 10, 2) := by decide +kernel
theorem dX11_isWhole_214 : decode cX11_isWhole 214 = .ok (.iconst 0, 1) := by decide +kernel
theorem dX11_isWhole_215 : decode cX11_isWhole 215 = .ok (.invokevirtual 442, 3) := by decide +kernel
theorem dX11_isWhole_218 : decode cX11_isWhole 218 = .ok (.i2l, 1) := by decide +kernel
theorem dX11_isWhole_219 : decode cX11_isWhole 219 = .ok (.aload_n 0, 1) := by decide +kernel
theorem dX11_isWhole_220 : decode cX11_isWhole 220 = .ok (.iconst 4, 1) := by decide +kernel
theorem dX11_isWhole_221 : decode cX11_isWhole 221 = .ok (.bipush 54, 2) := by decide +kernel
theorem dX11_isWhole_223 : decode cX11_isWhole 223 = .ok (.iload 9, 2) := by decide +kernel
theorem dX11_isWhole_225 : decode cX11_isWhole 225 = .ok (.imul, 1) := by decide +kernel
theorem dX11_isWhole_226 : decode cX11_isWhole 226 = .ok (.iadd, 1) := by decide +kernel
theorem dX11_isWhole_227 : decode cX11_isWhole 227 = .ok (.iconst 1, 1) := by decide +kernel
theorem dX11_isWhole_228 : decode cX11_isWhole 228 = .ok (.invokevirtual 588, 3) := by decide +kernel
theorem dX11_isWhole_231 : decode cX11_isWhole 231 = .ok (.ladd, 1) := by decide +kernel
theorem dX11_isWhole_232 : decode cX11_isWhole 232 = .ok (.ladd, 1) := by decide +kernel
theorem dX11_isWhole_233 : decode cX11_isWhole 233 = .ok (.lstore 5, 2) := by decide +kernel
theorem dX11_isWhole_235 : decode cX11_isWhole 235 = .ok (.lload 7, 2) := by decide +kernel
theorem dX11_isWhole_237 : decode cX11_isWhole 237 = .ok (.aload_n 0, 1) := by decide +kernel
theorem dX11_isWhole_238 : decode cX11_isWhole 238 = .ok (.iconst 4, 1) := by decide +kernel
theorem dX11_isWhole_239 : decode cX11_isWhole 239 = .ok (.bipush 54, 2) := by decide +kernel
theorem dX11_isWhole_241 : decode cX11_isWhole 241 = .ok (.iload 9, 2) := by decide +kernel
theorem dX11_isWhole_243 : decode cX11_isWhole 243 = .ok (.imul, 1) := by decide +kernel
theorem dX11_isWhole_244 : decode cX11_isWhole 244 = .ok (.iadd, 1) := by decide +kernel
theorem dX11_isWhole_245 : decode cX11_isWhole 245 = .ok (.iconst 0, 1) := by decide +kernel
theorem dX11_isWhole_246 : decode cX11_isWhole 246 = .ok (.invokevirtual 588, 3) := by decide +kernel
theorem dX11_isWhole_249 : decode cX11_isWhole 249 = .ok (.ladd, 1) := by decide +kernel
theorem dX11_isWhole_250 : decode cX11_isWhole 250 = .ok (.lstore 7, 2) := by decide +kernel
theorem dX11_isWhole_252 : decode cX11_isWhole 252 = .ok (.iconst 0, 1) := by decide +kernel
theorem dX11_isWhole_253 : decode cX11_isWhole 253 = .ok (.istore 11, 2) := by decide +kernel
theorem dX11_isWhole_255 : decode cX11_isWhole 255 = .ok (.iload 11, 2) := by decide +kernel
theorem dX11_isWhole_257 : decode cX11_isWhole 257 = .ok (.aload_n 0, 1) := by decide +kernel
theorem dX11_isWhole_258 : decode cX11_isWhole 258 = .ok (.getfield 73, 3) := by decide +kernel
theorem dX11_isWhole_261 : decode cX11_isWhole 261 = .ok (.aload_n 0, 1) := by decide +kernel
theorem dX11_isWhole_262 : decode cX11_isWhole 262 = .ok (.getfield 48, 3) := by decide +kernel
theorem dX11_isWhole_265 : decode cX11_isWhole 265 = .ok (.iaload, 1) := by decide +kernel
theorem dX11_isWhole_266 : decode cX11_isWhole 266 = .ok (.if_icmp .ge 36, 3) := by decide +kernel
theorem dX11_isWhole_269 : decode cX11_isWhole 269 = .ok (.lload 7, 2) := by decide +kernel
theorem dX11_isWhole_271 : decode cX11_isWhole 271 = .ok (.iload 10, 2) := by decide +kernel
theorem dX11_isWhole_273 : decode cX11_isWhole 273 = .ok (.iload 11, 2) := by decide +kernel
theorem dX11_isWhole_275 : decode cX11_isWhole 275 = .ok (.ishr, 1) := by decide +kernel
theorem dX11_isWhole_276 : decode cX11_isWhole 276 = .ok (.iconst 1, 1) := by decide +kernel
theorem dX11_isWhole_277 : decode cX11_isWhole 277 = .ok (.iand, 1) := by decide +kernel
theorem dX11_isWhole_278 : decode cX11_isWhole 278 = .ok (.iconst 1, 1) := by decide +kernel
theorem dX11_isWhole_279 : decode cX11_isWhole 279 = .ok (.if_icmp .ne 13, 3) := by decide +kernel
theorem dX11_isWhole_282 : decode cX11_isWhole 282 = .ok (.aload_n 0, 1) := by decide +kernel
theorem dX11_isWhole_283 : decode cX11_isWhole 283 = .ok (.iload 11, 2) := by decide +kernel
theorem dX11_isWhole_285 : decode cX11_isWhole 285 = .ok (.invokevirtual 474, 3) := by decide +kernel
theorem dX11_isWhole_288 : decode cX11_isWhole 288 = .ok (.i2l, 1) := by decide +kernel
theorem dX11_isWhole_289 : decode cX11_isWhole 289 = .ok (.goto 4, 3) := by decide +kernel
theorem dX11_isWhole_292 : decode cX11_isWhole 292 = .ok (.lconst 0, 1) := by decide +kernel
theorem dX11_isWhole_293 : decode cX11_isWhole 293 = .ok (.ladd, 1) := by decide +kernel
theorem dX11_isWhole_294 : decode cX11_isWhole 294 = .ok (.lstore 7, 2) := by decide +kernel
theorem dX11_isWhole_296 : decode cX11_isWhole 296 = .ok (.iinc 11 1, 3) := by decide +kernel
theorem dX11_isWhole_299 : decode cX11_isWhole 299 = .ok (.goto (-44), 3) := by decide +kernel
theorem dX11_isWhole_302 : decode cX11_isWhole 302 = .ok (.iinc 9 1, 3) := by decide +kernel
theorem dX11_isWhole_305 : decode cX11_isWhole 305 = .ok (.goto (-141), 3) := by decide +kernel
theorem dX11_isWhole_308 : decode cX11_isWhole 308 = .ok (.iconst 0, 1) := by decide +kernel
theorem dX11_isWhole_309 : decode cX11_isWhole 309 = .ok (.istore 9, 2) := by decide +kernel
theorem dX11_isWhole_311 : decode cX11_isWhole 311 = .ok (.iload 9, 2) := by decide +kernel
theorem dX11_isWhole_313 : decode cX11_isWhole 313 = .ok (.iload_n 3, 1) := by decide +kernel
theorem dX11_isWhole_314 : decode cX11_isWhole 314 = .ok (.if_icmp .ge 47, 3) := by decide +kernel
theorem dX11_isWhole_317 : decode cX11_isWhole 317 = .ok (.aload_n 0, 1) := by decide +kernel
theorem dX11_isWhole_318 : decode cX11_isWhole 318 = .ok (.iload_n 2, 1) := by decide +kernel
theorem dX11_isWhole_319 : decode cX11_isWhole 319 = .ok (.bipush 56, 2) := by decide +kernel
theorem dX11_isWhole_321 : decode cX11_isWhole 321 = .ok (.iadd, 1) := by decide +kernel
theorem dX11_isWhole_322 : decode cX11_isWhole 322 = .ok (.iconst 2, 1) := by decide +kernel
theorem dX11_isWhole_323 : decode cX11_isWhole 323 = .ok (.iload 9, 2) := by decide +kernel
theorem dX11_isWhole_325 : decode cX11_isWhole 325 = .ok (.imul, 1) := by decide +kernel
theorem dX11_isWhole_326 : decode cX11_isWhole 326 = .ok (.iadd, 1) := by decide +kernel
theorem dX11_isWhole_327 : decode cX11_isWhole 327 = .ok (.invokevirtual 585, 3) := by decide +kernel
theorem dX11_isWhole_330 : decode cX11_isWhole 330 = .ok (.iconst 1, 1) := by decide +kernel
theorem dX11_isWhole_331 : decode cX11_isWhole 331 = .ok (.if_icmp .ge 5, 3) := by decide +kernel
theorem dX11_isWhole_334 : decode cX11_isWhole 334 = .ok (.iconst 0, 1) := by decide +kernel
theorem dX11_isWhole_335 : decode cX11_isWhole 335 = .ok (.ireturn, 1) := by decide +kernel
theorem dX11_isWhole_336 : decode cX11_isWhole 336 = .ok (.lload 5, 2) := by decide +kernel
theorem dX11_isWhole_338 : decode cX11_isWhole 338 = .ok (.aload_n 0, 1) := by decide +kernel
theorem dX11_isWhole_339 : decode cX11_isWhole 339 = .ok (.iload_n 2, 1) := by decide +kernel
theorem dX11_isWhole_340 : decode cX11_isWhole 340 = .ok (.bipush 56, 2) := by decide +kernel
theorem dX11_isWhole_342 : decode cX11_isWhole 342 = .ok (.iadd, 1) := by decide +kernel
theorem dX11_isWhole_343 : decode cX11_isWhole 343 = .ok (.iconst 2, 1) := by decide +kernel
theorem dX11_isWhole_344 : decode cX11_isWhole 344 = .ok (.iload 9, 2) := by decide +kernel
theorem dX11_isWhole_346 : decode cX11_isWhole 346 = .ok (.imul, 1) := by decide +kernel
theorem dX11_isWhole_347 : decode cX11_isWhole 347 = .ok (.iadd, 1) := by decide +kernel
theorem dX11_isWhole_348 : decode cX11_isWhole 348 = .ok (.invokevirtual 585, 3) := by decide +kernel
theorem dX11_isWhole_351 : decode cX11_isWhole 351 = .ok (.i2l, 1) := by decide +kernel
theorem dX11_isWhole_352 : decode cX11_isWhole 352 = .ok (.ladd, 1) := by decide +kernel
theorem dX11_isWhole_353 : decode cX11_isWhole 353 = .ok (.lstore 5, 2) := by decide +kernel
theorem dX11_isWhole_355 : decode cX11_isWhole 355 = .ok (.iinc 9 1, 3) := by decide +kernel
theorem dX11_isWhole_358 : decode cX11_isWhole 358 = .ok (.goto (-47), 3) := by decide +kernel
theorem dX11_isWhole_361 : decode cX11_isWhole 361 = .ok (.lload 5, 2) := by decide +kernel
theorem dX11_isWhole_363 : decode cX11_isWhole 363 = .ok (.ldc2_w 594, 3) := by decide +kernel
theorem dX11_isWhole_366 : decode cX11_isWhole 366 = .ok (.lcmp, 1) := by decide +kernel
theorem dX11_isWhole_367 : decode cX11_isWhole 367 = .ok (.ifCond .gt 16, 3) := by decide +kernel
theorem dX11_isWhole_370 : decode cX11_isWhole 370 = .ok (.lload 7, 2) := by decide +kernel
theorem dX11_isWhole_372 : decode cX11_isWhole 372 = .ok (.ldc2_w 459, 3) := by decide +kernel
theorem dX11_isWhole_375 : decode cX11_isWhole 375 = .ok (.lcmp, 1) := by decide +kernel
theorem dX11_isWhole_376 : decode cX11_isWhole 376 = .ok (.ifCond .gt 7, 3) := by decide +kernel
theorem dX11_isWhole_379 : decode cX11_isWhole 379 = .ok (.iconst 1, 1) := by decide +kernel
theorem dX11_isWhole_380 : decode cX11_isWhole 380 = .ok (.goto 4, 3) := by decide +kernel
theorem dX11_isWhole_383 : decode cX11_isWhole 383 = .ok (.iconst 0, 1) := by decide +kernel
theorem dX11_isWhole_384 : decode cX11_isWhole 384 = .ok (.ireturn, 1) := by decide +kernel
theorem dX11_on_0 : decode cX11_on 0 = .ok (.aload_n 0, 1) := by decide +kernel
theorem dX11_on_1 : decode cX11_on 1 = .ok (.getfield 13, 3) := by decide +kernel
theorem dX11_on_4 : decode cX11_on 4 = .ok (.istore_n 1, 1) := by decide +kernel
theorem dX11_on_5 : decode cX11_on 5 = .ok (.aload_n 0, 1) := by decide +kernel
theorem dX11_on_6 : decode cX11_on 6 = .ok (.iconst 0, 1) := by decide +kernel
theorem dX11_on_7 : decode cX11_on 7 = .ok (.putfield 13, 3) := by decide +kernel
theorem dX11_on_10 : decode cX11_on 10 = .ok (.aload_n 0, 1) := by decide +kernel
theorem dX11_on_11 : decode cX11_on 11 = .ok (.iload_n 1, 1) := by decide +kernel
theorem dX11_on_12 : decode cX11_on 12 = .ok (.invokevirtual 596, 3) := by decide +kernel
theorem dX11_on_15 : decode cX11_on 15 = .ok (.ifCond .ne 17, 3) := by decide +kernel
theorem dX11_on_18 : decode cX11_on 18 = .ok (.aload_n 0, 1) := by decide +kernel
theorem dX11_on_19 : decode cX11_on 19 = .ok (.iconst 5, 1) := by decide +kernel
theorem dX11_on_20 : decode cX11_on 20 = .ok (.invokevirtual 234, 3) := by decide +kernel
theorem dX11_on_23 : decode cX11_on 23 = .ok (.ifCond .lt 7, 3) := by decide +kernel
theorem dX11_on_26 : decode cX11_on 26 = .ok (.iconst 1, 1) := by decide +kernel
theorem dX11_on_27 : decode cX11_on 27 = .ok (.goto 4, 3) := by decide +kernel
theorem dX11_on_30 : decode cX11_on 30 = .ok (.iconst 0, 1) := by decide +kernel
theorem dX11_on_31 : decode cX11_on 31 = .ok (.ireturn, 1) := by decide +kernel
theorem dX11_on_32 : decode cX11_on 32 = .ok (.aload_n 0, 1) := by decide +kernel
theorem dX11_on_33 : decode cX11_on 33 = .ok (.aload_n 0, 1) := by decide +kernel
theorem dX11_on_34 : decode cX11_on 34 = .ok (.iconst 0, 1) := by decide +kernel
theorem dX11_on_35 : decode cX11_on 35 = .ok (.invokevirtual 585, 3) := by decide +kernel
theorem dX11_on_38 : decode cX11_on 38 = .ok (.putfield 171, 3) := by decide +kernel
theorem dX11_on_41 : decode cX11_on 41 = .ok (.iconst 0, 1) := by decide +kernel
theorem dX11_on_42 : decode cX11_on 42 = .ok (.istore_n 2, 1) := by decide +kernel
theorem dX11_on_43 : decode cX11_on 43 = .ok (.iload_n 2, 1) := by decide +kernel
theorem dX11_on_44 : decode cX11_on 44 = .ok (.aload_n 0, 1) := by decide +kernel
theorem dX11_on_45 : decode cX11_on 45 = .ok (.getfield 54, 3) := by decide +kernel
theorem dX11_on_48 : decode cX11_on 48 = .ok (.aload_n 0, 1) := by decide +kernel
theorem dX11_on_49 : decode cX11_on 49 = .ok (.getfield 48, 3) := by decide +kernel
theorem dX11_on_52 : decode cX11_on 52 = .ok (.iaload, 1) := by decide +kernel
theorem dX11_on_53 : decode cX11_on 53 = .ok (.if_icmp .ge 93, 3) := by decide +kernel
theorem dX11_on_56 : decode cX11_on 56 = .ok (.aload_n 0, 1) := by decide +kernel
theorem dX11_on_57 : decode cX11_on 57 = .ok (.getfield 174, 3) := by decide +kernel
theorem dX11_on_60 : decode cX11_on 60 = .ok (.iload_n 2, 1) := by decide +kernel
theorem dX11_on_61 : decode cX11_on 61 = .ok (.aload_n 0, 1) := by decide +kernel
theorem dX11_on_62 : decode cX11_on 62 = .ok (.iconst 2, 1) := by decide +kernel
theorem dX11_on_63 : decode cX11_on 63 = .ok (.bipush 54, 2) := by decide +kernel
theorem dX11_on_65 : decode cX11_on 65 = .ok (.iload_n 2, 1) := by decide +kernel
theorem dX11_on_66 : decode cX11_on 66 = .ok (.imul, 1) := by decide +kernel
theorem dX11_on_67 : decode cX11_on 67 = .ok (.iadd, 1) := by decide +kernel
theorem dX11_on_68 : decode cX11_on 68 = .ok (.invokevirtual 585, 3) := by decide +kernel
theorem dX11_on_71 : decode cX11_on 71 = .ok (.iastore, 1) := by decide +kernel
theorem dX11_on_72 : decode cX11_on 72 = .ok (.iconst 0, 1) := by decide +kernel
theorem dX11_on_73 : decode cX11_on 73 = .ok (.istore_n 3, 1) := by decide +kernel
theorem dX11_on_74 : decode cX11_on 74 = .ok (.iload_n 3, 1) := by decide +kernel
theorem dX11_on_75 : decode cX11_on 75 = .ok (.bipush 26, 2) := by decide +kernel
theorem dX11_on_77 : decode cX11_on 77 = .ok (.if_icmp .ge 34, 3) := by decide +kernel
theorem dX11_on_80 : decode cX11_on 80 = .ok (.aload_n 0, 1) := by decide +kernel
theorem dX11_on_81 : decode cX11_on 81 = .ok (.getfield 177, 3) := by decide +kernel
theorem dX11_on_84 : decode cX11_on 84 = .ok (.bipush 26, 2) := by decide +kernel
theorem dX11_on_86 : decode cX11_on 86 = .ok (.iload_n 2, 1) := by decide +kernel
theorem dX11_on_87 : decode cX11_on 87 = .ok (.imul, 1) := by decide +kernel
theorem dX11_on_88 : decode cX11_on 88 = .ok (.iload_n 3, 1) := by decide +kernel
theorem dX11_on_89 : decode cX11_on 89 = .ok (.iadd, 1) := by decide +kernel
theorem dX11_on_90 : decode cX11_on 90 = .ok (.aload_n 0, 1) := by decide +kernel
theorem dX11_on_91 : decode cX11_on 91 = .ok (.iconst 4, 1) := by decide +kernel
theorem dX11_on_92 : decode cX11_on 92 = .ok (.bipush 54, 2) := by decide +kernel
theorem dX11_on_94 : decode cX11_on 94 = .ok (.iload_n 2, 1) := by decide +kernel
theorem dX11_on_95 : decode cX11_on 95 = .ok (.imul, 1) := by decide +kernel
theorem dX11_on_96 : decode cX11_on 96 = .ok (.iadd, 1) := by decide +kernel
theorem dX11_on_97 : decode cX11_on 97 = .ok (.iconst 2, 1) := by decide +kernel
theorem dX11_on_98 : decode cX11_on 98 = .ok (.iload_n 3, 1) := by decide +kernel
theorem dX11_on_99 : decode cX11_on 99 = .ok (.imul, 1) := by decide +kernel
theorem dX11_on_100 : decode cX11_on 100 = .ok (.iadd, 1) := by decide +kernel
theorem dX11_on_101 : decode cX11_on 101 = .ok (.invokevirtual 585, 3) := by decide +kernel
theorem dX11_on_104 : decode cX11_on 104 = .ok (.iastore, 1) := by decide +kernel
theorem dX11_on_105 : decode cX11_on 105 = .ok (.iinc 3 1, 3) := by decide +kernel
theorem dX11_on_108 : decode cX11_on 108 = .ok (.goto (-34), 3) := by decide +kernel
theorem dX11_on_111 : decode cX11_on 111 = .ok (.iconst 0, 1) := by decide +kernel
theorem dX11_on_112 : decode cX11_on 112 = .ok (.istore_n 3, 1) := by decide +kernel
theorem dX11_on_113 : decode cX11_on 113 = .ok (.iload_n 3, 1) := by decide +kernel
theorem dX11_on_114 : decode cX11_on 114 = .ok (.bipush 12, 2) := by decide +kernel
theorem dX11_on_116 : decode cX11_on 116 = .ok (.if_icmp .ge 24, 3) := by decide +kernel
theorem dX11_on_119 : decode cX11_on 119 = .ok (.aload_n 0, 1) := by decide +kernel
theorem dX11_on_120 : decode cX11_on 120 = .ok (.getfield 213, 3) := by decide +kernel
theorem dX11_on_123 : decode cX11_on 123 = .ok (.bipush 12, 2) := by decide +kernel
theorem dX11_on_125 : decode cX11_on 125 = .ok (.iload_n 2, 1) := by decide +kernel
theorem dX11_on_126 : decode cX11_on 126 = .ok (.imul, 1) := by decide +kernel
theorem dX11_on_127 : decode cX11_on 127 = .ok (.iload_n 3, 1) := by decide +kernel
theorem dX11_on_128 : decode cX11_on 128 = .ok (.iadd, 1) := by decide +kernel
theorem dX11_on_129 : decode cX11_on 129 = .ok (.aload_n 0, 1) := by decide +kernel
theorem dX11_on_130 : decode cX11_on 130 = .ok (.getfield 171, 3) := by decide +kernel
theorem dX11_on_133 : decode cX11_on 133 = .ok (.iastore, 1) := by decide +kernel
theorem dX11_on_134 : decode cX11_on 134 = .ok (.iinc 3 1, 3) := by decide +kernel
theorem dX11_on_137 : decode cX11_on 137 = .ok (.goto (-24), 3) := by decide +kernel
theorem dX11_on_140 : decode cX11_on 140 = .ok (.iinc 2 1, 3) := by decide +kernel
theorem dX11_on_143 : decode cX11_on 143 = .ok (.goto (-100), 3) := by decide +kernel
theorem dX11_on_146 : decode cX11_on 146 = .ok (.iconst 2, 1) := by decide +kernel
theorem dX11_on_147 : decode cX11_on 147 = .ok (.bipush 54, 2) := by decide +kernel
theorem dX11_on_149 : decode cX11_on 149 = .ok (.aload_n 0, 1) := by decide +kernel
theorem dX11_on_150 : decode cX11_on 150 = .ok (.getfield 54, 3) := by decide +kernel
theorem dX11_on_153 : decode cX11_on 153 = .ok (.aload_n 0, 1) := by decide +kernel
theorem dX11_on_154 : decode cX11_on 154 = .ok (.getfield 48, 3) := by decide +kernel
theorem dX11_on_157 : decode cX11_on 157 = .ok (.iaload, 1) := by decide +kernel
theorem dX11_on_158 : decode cX11_on 158 = .ok (.imul, 1) := by decide +kernel
theorem dX11_on_159 : decode cX11_on 159 = .ok (.iadd, 1) := by decide +kernel
theorem dX11_on_160 : decode cX11_on 160 = .ok (.istore_n 2, 1) := by decide +kernel
theorem dX11_on_161 : decode cX11_on 161 = .ok (.iconst 0, 1) := by decide +kernel
theorem dX11_on_162 : decode cX11_on 162 = .ok (.istore_n 3, 1) := by decide +kernel
theorem dX11_on_163 : decode cX11_on 163 = .ok (.iload_n 3, 1) := by decide +kernel
theorem dX11_on_164 : decode cX11_on 164 = .ok (.bipush 26, 2) := by decide +kernel
theorem dX11_on_166 : decode cX11_on 166 = .ok (.if_icmp .ge 28, 3) := by decide +kernel
theorem dX11_on_169 : decode cX11_on 169 = .ok (.aload_n 0, 1) := by decide +kernel
theorem dX11_on_170 : decode cX11_on 170 = .ok (.getfield 177, 3) := by decide +kernel
theorem dX11_on_173 : decode cX11_on 173 = .ok (.sipush 208, 3) := by decide +kernel
theorem dX11_on_176 : decode cX11_on 176 = .ok (.iload_n 3, 1) := by decide +kernel
theorem dX11_on_177 : decode cX11_on 177 = .ok (.iadd, 1) := by decide +kernel
theorem dX11_on_178 : decode cX11_on 178 = .ok (.aload_n 0, 1) := by decide +kernel
theorem dX11_on_179 : decode cX11_on 179 = .ok (.iload_n 2, 1) := by decide +kernel
theorem dX11_on_180 : decode cX11_on 180 = .ok (.iconst 2, 1) := by decide +kernel
theorem dX11_on_181 : decode cX11_on 181 = .ok (.iload_n 3, 1) := by decide +kernel
theorem dX11_on_182 : decode cX11_on 182 = .ok (.imul, 1) := by decide +kernel
theorem dX11_on_183 : decode cX11_on 183 = .ok (.iadd, 1) := by decide +kernel
theorem dX11_on_184 : decode cX11_on 184 = .ok (.invokevirtual 585, 3) := by decide +kernel
theorem dX11_on_187 : decode cX11_on 187 = .ok (.iastore, 1) := by decide +kernel
theorem dX11_on_188 : decode cX11_on 188 = .ok (.iinc 3 1, 3) := by decide +kernel
theorem dX11_on_191 : decode cX11_on 191 = .ok (.goto (-28), 3) := by decide +kernel
theorem dX11_on_194 : decode cX11_on 194 = .ok (.aload_n 0, 1) := by decide +kernel
theorem dX11_on_195 : decode cX11_on 195 = .ok (.ldc_w 599, 3) := by decide +kernel
theorem dX11_on_198 : decode cX11_on 198 = .ok (.aload_n 0, 1) := by decide +kernel
theorem dX11_on_199 : decode cX11_on 199 = .ok (.getfield 7, 3) := by decide +kernel
theorem dX11_on_202 : decode cX11_on 202 = .ok (.iload_n 2, 1) := by decide +kernel
theorem dX11_on_203 : decode cX11_on 203 = .ok (.bipush 52, 2) := by decide +kernel
theorem dX11_on_205 : decode cX11_on 205 = .ok (.iadd, 1) := by decide +kernel
theorem dX11_on_206 : decode cX11_on 206 = .ok (.iaload, 1) := by decide +kernel
theorem dX11_on_207 : decode cX11_on 207 = .ok (.imul, 1) := by decide +kernel
theorem dX11_on_208 : decode cX11_on 208 = .ok (.aload_n 0, 1) := by decide +kernel
theorem dX11_on_209 : decode cX11_on 209 = .ok (.iload_n 2, 1) := by decide +kernel
theorem dX11_on_210 : decode cX11_on 210 = .ok (.bipush 53, 2) := by decide +kernel
theorem dX11_on_212 : decode cX11_on 212 = .ok (.iadd, 1) := by decide +kernel
theorem dX11_on_213 : decode cX11_on 213 = .ok (.invokevirtual 585, 3) := by decide +kernel
theorem dX11_on_216 : decode cX11_on 216 = .ok (.iadd, 1) := by decide +kernel
theorem dX11_on_217 : decode cX11_on 217 = .ok (.putfield 180, 3) := by decide +kernel
theorem dX11_on_220 : decode cX11_on 220 = .ok (.aload_n 0, 1) := by decide +kernel
theorem dX11_on_221 : decode cX11_on 221 = .ok (.aload_n 0, 1) := by decide +kernel
theorem dX11_on_222 : decode cX11_on 222 = .ok (.getfield 7, 3) := by decide +kernel
theorem dX11_on_225 : decode cX11_on 225 = .ok (.iload_n 2, 1) := by decide +kernel
theorem dX11_on_226 : decode cX11_on 226 = .ok (.bipush 55, 2) := by decide +kernel
theorem dX11_on_228 : decode cX11_on 228 = .ok (.iadd, 1) := by decide +kernel
theorem dX11_on_229 : decode cX11_on 229 = .ok (.iaload, 1) := by decide +kernel
theorem dX11_on_230 : decode cX11_on 230 = .ok (.putfield 195, 3) := by decide +kernel
theorem dX11_on_233 : decode cX11_on 233 = .ok (.iconst 0, 1) := by decide +kernel
theorem dX11_on_234 : decode cX11_on 234 = .ok (.istore_n 3, 1) := by decide +kernel
theorem dX11_on_235 : decode cX11_on 235 = .ok (.iload_n 3, 1) := by decide +kernel
theorem dX11_on_236 : decode cX11_on 236 = .ok (.aload_n 0, 1) := by decide +kernel
theorem dX11_on_237 : decode cX11_on 237 = .ok (.getfield 195, 3) := by decide +kernel
theorem dX11_on_240 : decode cX11_on 240 = .ok (.if_icmp .ge 27, 3) := by decide +kernel
theorem dX11_on_243 : decode cX11_on 243 = .ok (.aload_n 0, 1) := by decide +kernel
theorem dX11_on_244 : decode cX11_on 244 = .ok (.getfield 198, 3) := by decide +kernel
theorem dX11_on_247 : decode cX11_on 247 = .ok (.iload_n 3, 1) := by decide +kernel
theorem dX11_on_248 : decode cX11_on 248 = .ok (.aload_n 0, 1) := by decide +kernel
theorem dX11_on_249 : decode cX11_on 249 = .ok (.iload_n 2, 1) := by decide +kernel
theorem dX11_on_250 : decode cX11_on 250 = .ok (.bipush 56, 2) := by decide +kernel
theorem dX11_on_252 : decode cX11_on 252 = .ok (.iadd, 1) := by decide +kernel
theorem dX11_on_253 : decode cX11_on 253 = .ok (.iconst 2, 1) := by decide +kernel
theorem dX11_on_254 : decode cX11_on 254 = .ok (.iload_n 3, 1) := by decide +kernel
theorem dX11_on_255 : decode cX11_on 255 = .ok (.imul, 1) := by decide +kernel
theorem dX11_on_256 : decode cX11_on 256 = .ok (.iadd, 1) := by decide +kernel
theorem dX11_on_257 : decode cX11_on 257 = .ok (.invokevirtual 585, 3) := by decide +kernel
theorem dX11_on_260 : decode cX11_on 260 = .ok (.iastore, 1) := by decide +kernel
theorem dX11_on_261 : decode cX11_on 261 = .ok (.iinc 3 1, 3) := by decide +kernel
theorem dX11_on_264 : decode cX11_on 264 = .ok (.goto (-29), 3) := by decide +kernel
theorem dX11_on_267 : decode cX11_on 267 = .ok (.aload_n 0, 1) := by decide +kernel
theorem dX11_on_268 : decode cX11_on 268 = .ok (.iconst 0, 1) := by decide +kernel
theorem dX11_on_269 : decode cX11_on 269 = .ok (.putfield 183, 3) := by decide +kernel
theorem dX11_on_272 : decode cX11_on 272 = .ok (.aload_n 0, 1) := by decide +kernel
theorem dX11_on_273 : decode cX11_on 273 = .ok (.iconst 0, 1) := by decide +kernel
theorem dX11_on_274 : decode cX11_on 274 = .ok (.putfield 201, 3) := by decide +kernel
theorem dX11_on_277 : decode cX11_on 277 = .ok (.aload_n 0, 1) := by decide +kernel
theorem dX11_on_278 : decode cX11_on 278 = .ok (.iconst 0, 1) := by decide +kernel
theorem dX11_on_279 : decode cX11_on 279 = .ok (.putfield 207, 3) := by decide +kernel
theorem dX11_on_282 : decode cX11_on 282 = .ok (.iconst 1, 1) := by decide +kernel
theorem dX11_on_283 : decode cX11_on 283 = .ok (.ireturn, 1) := by decide +kernel
theorem dJ6_bitCount_0f7a4_0 : decode cJ6_bitCount_0f7a4 0 = .ok (.iload_n 0, 1) := by decide +kernel
theorem dJ6_bitCount_0f7a4_1 : decode cJ6_bitCount_0f7a4 1 = .ok (.iload_n 0, 1) := by decide +kernel
theorem dJ6_bitCount_0f7a4_2 : decode cJ6_bitCount_0f7a4 2 = .ok (.iconst 1, 1) := by decide +kernel
theorem dJ6_bitCount_0f7a4_3 : decode cJ6_bitCount_0f7a4 3 = .ok (.iushr, 1) := by decide +kernel
theorem dJ6_bitCount_0f7a4_4 : decode cJ6_bitCount_0f7a4 4 = .ok (.ldc_w 265, 3) := by decide +kernel
theorem dJ6_bitCount_0f7a4_7 : decode cJ6_bitCount_0f7a4 7 = .ok (.iand, 1) := by decide +kernel
theorem dJ6_bitCount_0f7a4_8 : decode cJ6_bitCount_0f7a4 8 = .ok (.isub, 1) := by decide +kernel
theorem dJ6_bitCount_0f7a4_9 : decode cJ6_bitCount_0f7a4 9 = .ok (.istore_n 0, 1) := by decide +kernel
theorem dJ6_bitCount_0f7a4_10 : decode cJ6_bitCount_0f7a4 10 = .ok (.iload_n 0, 1) := by decide +kernel
theorem dJ6_bitCount_0f7a4_11 : decode cJ6_bitCount_0f7a4 11 = .ok (.ldc_w 266, 3) := by decide +kernel
theorem dJ6_bitCount_0f7a4_14 : decode cJ6_bitCount_0f7a4 14 = .ok (.iand, 1) := by decide +kernel
theorem dJ6_bitCount_0f7a4_15 : decode cJ6_bitCount_0f7a4 15 = .ok (.iload_n 0, 1) := by decide +kernel
theorem dJ6_bitCount_0f7a4_16 : decode cJ6_bitCount_0f7a4 16 = .ok (.iconst 2, 1) := by decide +kernel
theorem dJ6_bitCount_0f7a4_17 : decode cJ6_bitCount_0f7a4 17 = .ok (.iushr, 1) := by decide +kernel
theorem dJ6_bitCount_0f7a4_18 : decode cJ6_bitCount_0f7a4 18 = .ok (.ldc_w 266, 3) := by decide +kernel
theorem dJ6_bitCount_0f7a4_21 : decode cJ6_bitCount_0f7a4 21 = .ok (.iand, 1) := by decide +kernel
theorem dJ6_bitCount_0f7a4_22 : decode cJ6_bitCount_0f7a4 22 = .ok (.iadd, 1) := by decide +kernel
theorem dJ6_bitCount_0f7a4_23 : decode cJ6_bitCount_0f7a4 23 = .ok (.istore_n 0, 1) := by decide +kernel
theorem dJ6_bitCount_0f7a4_24 : decode cJ6_bitCount_0f7a4 24 = .ok (.iload_n 0, 1) := by decide +kernel
theorem dJ6_bitCount_0f7a4_25 : decode cJ6_bitCount_0f7a4 25 = .ok (.iload_n 0, 1) := by decide +kernel
theorem dJ6_bitCount_0f7a4_26 : decode cJ6_bitCount_0f7a4 26 = .ok (.iconst 4, 1) := by decide +kernel
theorem dJ6_bitCount_0f7a4_27 : decode cJ6_bitCount_0f7a4 27 = .ok (.iushr, 1) := by decide +kernel
theorem dJ6_bitCount_0f7a4_28 : decode cJ6_bitCount_0f7a4 28 = .ok (.iadd, 1) := by decide +kernel
theorem dJ6_bitCount_0f7a4_29 : decode cJ6_bitCount_0f7a4 29 = .ok (.ldc_w 267, 3) := by decide +kernel
theorem dJ6_bitCount_0f7a4_32 : decode cJ6_bitCount_0f7a4 32 = .ok (.iand, 1) := by decide +kernel
theorem dJ6_bitCount_0f7a4_33 : decode cJ6_bitCount_0f7a4 33 = .ok (.istore_n 0, 1) := by decide +kernel
theorem dJ6_bitCount_0f7a4_34 : decode cJ6_bitCount_0f7a4 34 = .ok (.iload_n 0, 1) := by decide +kernel
theorem dJ6_bitCount_0f7a4_35 : decode cJ6_bitCount_0f7a4 35 = .ok (.iload_n 0, 1) := by decide +kernel
theorem dJ6_bitCount_0f7a4_36 : decode cJ6_bitCount_0f7a4 36 = .ok (.bipush 8, 2) := by decide +kernel
theorem dJ6_bitCount_0f7a4_38 : decode cJ6_bitCount_0f7a4 38 = .ok (.iushr, 1) := by decide +kernel
theorem dJ6_bitCount_0f7a4_39 : decode cJ6_bitCount_0f7a4 39 = .ok (.iadd, 1) := by decide +kernel
theorem dJ6_bitCount_0f7a4_40 : decode cJ6_bitCount_0f7a4 40 = .ok (.istore_n 0, 1) := by decide +kernel
theorem dJ6_bitCount_0f7a4_41 : decode cJ6_bitCount_0f7a4 41 = .ok (.iload_n 0, 1) := by decide +kernel
theorem dJ6_bitCount_0f7a4_42 : decode cJ6_bitCount_0f7a4 42 = .ok (.iload_n 0, 1) := by decide +kernel
theorem dJ6_bitCount_0f7a4_43 : decode cJ6_bitCount_0f7a4 43 = .ok (.bipush 16, 2) := by decide +kernel
theorem dJ6_bitCount_0f7a4_45 : decode cJ6_bitCount_0f7a4 45 = .ok (.iushr, 1) := by decide +kernel
theorem dJ6_bitCount_0f7a4_46 : decode cJ6_bitCount_0f7a4 46 = .ok (.iadd, 1) := by decide +kernel
theorem dJ6_bitCount_0f7a4_47 : decode cJ6_bitCount_0f7a4 47 = .ok (.istore_n 0, 1) := by decide +kernel
theorem dJ6_bitCount_0f7a4_48 : decode cJ6_bitCount_0f7a4 48 = .ok (.iload_n 0, 1) := by decide +kernel
theorem dJ6_bitCount_0f7a4_49 : decode cJ6_bitCount_0f7a4 49 = .ok (.bipush 63, 2) := by decide +kernel
theorem dJ6_bitCount_0f7a4_51 : decode cJ6_bitCount_0f7a4 51 = .ok (.iand, 1) := by decide +kernel
theorem dJ6_bitCount_0f7a4_52 : decode cJ6_bitCount_0f7a4 52 = .ok (.ireturn, 1) := by decide +kernel
theorem dJ9_floorDiv_f86c9_0 : decode cJ9_floorDiv_f86c9 0 = .ok (.lload_n 0, 1) := by decide +kernel
theorem dJ9_floorDiv_f86c9_1 : decode cJ9_floorDiv_f86c9 1 = .ok (.lload_n 2, 1) := by decide +kernel
theorem dJ9_floorDiv_f86c9_2 : decode cJ9_floorDiv_f86c9 2 = .ok (.ldiv, 1) := by decide +kernel
theorem dJ9_floorDiv_f86c9_3 : decode cJ9_floorDiv_f86c9 3 = .ok (.lstore 4, 2) := by decide +kernel
theorem dJ9_floorDiv_f86c9_5 : decode cJ9_floorDiv_f86c9 5 = .ok (.lload_n 0, 1) := by decide +kernel
theorem dJ9_floorDiv_f86c9_6 : decode cJ9_floorDiv_f86c9 6 = .ok (.lload_n 2, 1) := by decide +kernel
theorem dJ9_floorDiv_f86c9_7 : decode cJ9_floorDiv_f86c9 7 = .ok (.lxor, 1) := by decide +kernel
theorem dJ9_floorDiv_f86c9_8 : decode cJ9_floorDiv_f86c9 8 = .ok (.lconst 0, 1) := by decide +kernel
theorem dJ9_floorDiv_f86c9_9 : decode cJ9_floorDiv_f86c9 9 = .ok (.lcmp, 1) := by decide +kernel
theorem dJ9_floorDiv_f86c9_10 : decode cJ9_floorDiv_f86c9 10 = .ok (.ifCond .ge 17, 3) := by decide +kernel
theorem dJ9_floorDiv_f86c9_13 : decode cJ9_floorDiv_f86c9 13 = .ok (.lload 4, 2) := by decide +kernel
theorem dJ9_floorDiv_f86c9_15 : decode cJ9_floorDiv_f86c9 15 = .ok (.lload_n 2, 1) := by decide +kernel
theorem dJ9_floorDiv_f86c9_16 : decode cJ9_floorDiv_f86c9 16 = .ok (.lmul, 1) := by decide +kernel
theorem dJ9_floorDiv_f86c9_17 : decode cJ9_floorDiv_f86c9 17 = .ok (.lload_n 0, 1) := by decide +kernel
theorem dJ9_floorDiv_f86c9_18 : decode cJ9_floorDiv_f86c9 18 = .ok (.lcmp, 1) := by decide +kernel
theorem dJ9_floorDiv_f86c9_19 : decode cJ9_floorDiv_f86c9 19 = .ok (.ifCond .eq 8, 3) := by decide +kernel
theorem dJ9_floorDiv_f86c9_22 : decode cJ9_floorDiv_f86c9 22 = .ok (.lload 4, 2) := by decide +kernel
theorem dJ9_floorDiv_f86c9_24 : decode cJ9_floorDiv_f86c9 24 = .ok (.lconst 1, 1) := by decide +kernel
theorem dJ9_floorDiv_f86c9_25 : decode cJ9_floorDiv_f86c9 25 = .ok (.lsub, 1) := by decide +kernel
theorem dJ9_floorDiv_f86c9_26 : decode cJ9_floorDiv_f86c9 26 = .ok (.lreturn, 1) := by decide +kernel
theorem dJ9_floorDiv_f86c9_27 : decode cJ9_floorDiv_f86c9 27 = .ok (.lload 4, 2) := by decide +kernel
theorem dJ9_floorDiv_f86c9_29 : decode cJ9_floorDiv_f86c9 29 = .ok (.lreturn, 1) := by decide +kernel
theorem dJ9_floorMod_f86c9_0 : decode cJ9_floorMod_f86c9 0 = .ok (.lload_n 0, 1) := by decide +kernel
theorem dJ9_floorMod_f86c9_1 : decode cJ9_floorMod_f86c9 1 = .ok (.lload_n 2, 1) := by decide +kernel
theorem dJ9_floorMod_f86c9_2 : decode cJ9_floorMod_f86c9 2 = .ok (.lrem, 1) := by decide +kernel
theorem dJ9_floorMod_f86c9_3 : decode cJ9_floorMod_f86c9 3 = .ok (.lstore 4, 2) := by decide +kernel
theorem dJ9_floorMod_f86c9_5 : decode cJ9_floorMod_f86c9 5 = .ok (.lload_n 0, 1) := by decide +kernel
theorem dJ9_floorMod_f86c9_6 : decode cJ9_floorMod_f86c9 6 = .ok (.lload_n 2, 1) := by decide +kernel
theorem dJ9_floorMod_f86c9_7 : decode cJ9_floorMod_f86c9 7 = .ok (.lxor, 1) := by decide +kernel
theorem dJ9_floorMod_f86c9_8 : decode cJ9_floorMod_f86c9 8 = .ok (.lconst 0, 1) := by decide +kernel
theorem dJ9_floorMod_f86c9_9 : decode cJ9_floorMod_f86c9 9 = .ok (.lcmp, 1) := by decide +kernel
theorem dJ9_floorMod_f86c9_10 : decode cJ9_floorMod_f86c9 10 = .ok (.ifCond .ge 15, 3) := by decide +kernel
theorem dJ9_floorMod_f86c9_13 : decode cJ9_floorMod_f86c9 13 = .ok (.lload 4, 2) := by decide +kernel
theorem dJ9_floorMod_f86c9_15 : decode cJ9_floorMod_f86c9 15 = .ok (.lconst 0, 1) := by decide +kernel
theorem dJ9_floorMod_f86c9_16 : decode cJ9_floorMod_f86c9 16 = .ok (.lcmp, 1) := by decide +kernel
theorem dJ9_floorMod_f86c9_17 : decode cJ9_floorMod_f86c9 17 = .ok (.ifCond .eq 8, 3) := by decide +kernel
theorem dJ9_floorMod_f86c9_20 : decode cJ9_floorMod_f86c9 20 = .ok (.lload 4, 2) := by decide +kernel
theorem dJ9_floorMod_f86c9_22 : decode cJ9_floorMod_f86c9 22 = .ok (.lload_n 2, 1) := by decide +kernel
theorem dJ9_floorMod_f86c9_23 : decode cJ9_floorMod_f86c9 23 = .ok (.ladd, 1) := by decide +kernel
theorem dJ9_floorMod_f86c9_24 : decode cJ9_floorMod_f86c9 24 = .ok (.lreturn, 1) := by decide +kernel
theorem dJ9_floorMod_f86c9_25 : decode cJ9_floorMod_f86c9 25 = .ok (.lload 4, 2) := by decide +kernel
theorem dJ9_floorMod_f86c9_27 : decode cJ9_floorMod_f86c9 27 = .ok (.lreturn, 1) := by decide +kernel
theorem dJ9_max_7cf53_0 : decode cJ9_max_7cf53 0 = .ok (.iload_n 0, 1) := by decide +kernel
theorem dJ9_max_7cf53_1 : decode cJ9_max_7cf53 1 = .ok (.iload_n 1, 1) := by decide +kernel
theorem dJ9_max_7cf53_2 : decode cJ9_max_7cf53 2 = .ok (.if_icmp .lt 7, 3) := by decide +kernel
theorem dJ9_max_7cf53_5 : decode cJ9_max_7cf53 5 = .ok (.iload_n 0, 1) := by decide +kernel
theorem dJ9_max_7cf53_6 : decode cJ9_max_7cf53 6 = .ok (.goto 4, 3) := by decide +kernel
theorem dJ9_max_7cf53_9 : decode cJ9_max_7cf53 9 = .ok (.iload_n 1, 1) := by decide +kernel
theorem dJ9_max_7cf53_10 : decode cJ9_max_7cf53 10 = .ok (.ireturn, 1) := by decide +kernel
theorem dJ9_max_f86c9_0 : decode cJ9_max_f86c9 0 = .ok (.lload_n 0, 1) := by decide +kernel
theorem dJ9_max_f86c9_1 : decode cJ9_max_f86c9 1 = .ok (.lload_n 2, 1) := by decide +kernel
theorem dJ9_max_f86c9_2 : decode cJ9_max_f86c9 2 = .ok (.lcmp, 1) := by decide +kernel
theorem dJ9_max_f86c9_3 : decode cJ9_max_f86c9 3 = .ok (.ifCond .lt 7, 3) := by decide +kernel
theorem dJ9_max_f86c9_6 : decode cJ9_max_f86c9 6 = .ok (.lload_n 0, 1) := by decide +kernel
theorem dJ9_max_f86c9_7 : decode cJ9_max_f86c9 7 = .ok (.goto 4, 3) := by decide +kernel
theorem dJ9_max_f86c9_10 : decode cJ9_max_f86c9 10 = .ok (.lload_n 2, 1) := by decide +kernel
theorem dJ9_max_f86c9_11 : decode cJ9_max_f86c9 11 = .ok (.lreturn, 1) := by decide +kernel
theorem dJ9_min_7cf53_0 : decode cJ9_min_7cf53 0 = .ok (.iload_n 0, 1) := by decide +kernel
theorem dJ9_min_7cf53_1 : decode cJ9_min_7cf53 1 = .ok (.iload_n 1, 1) := by decide +kernel
theorem dJ9_min_7cf53_2 : decode cJ9_min_7cf53 2 = .ok (.if_icmp .gt 7, 3) := by decide +kernel
theorem dJ9_min_7cf53_5 : decode cJ9_min_7cf53 5 = .ok (.iload_n 0, 1) := by decide +kernel
theorem dJ9_min_7cf53_6 : decode cJ9_min_7cf53 6 = .ok (.goto 4, 3) := by decide +kernel
theorem dJ9_min_7cf53_9 : decode cJ9_min_7cf53 9 = .ok (.iload_n 1, 1) := by decide +kernel
theorem dJ9_min_7cf53_10 : decode cJ9_min_7cf53 10 = .ok (.ireturn, 1) := by decide +kernel
theorem dJ9_min_f86c9_0 : decode cJ9_min_f86c9 0 = .ok (.lload_n 0, 1) := by decide +kernel
theorem dJ9_min_f86c9_1 : decode cJ9_min_f86c9 1 = .ok (.lload_n 2, 1) := by decide +kernel
theorem dJ9_min_f86c9_2 : decode cJ9_min_f86c9 2 = .ok (.lcmp, 1) := by decide +kernel
theorem dJ9_min_f86c9_3 : decode cJ9_min_f86c9 3 = .ok (.ifCond .gt 7, 3) := by decide +kernel
theorem dJ9_min_f86c9_6 : decode cJ9_min_f86c9 6 = .ok (.lload_n 0, 1) := by decide +kernel
theorem dJ9_min_f86c9_7 : decode cJ9_min_f86c9 7 = .ok (.goto 4, 3) := by decide +kernel
theorem dJ9_min_f86c9_10 : decode cJ9_min_f86c9 10 = .ok (.lload_n 2, 1) := by decide +kernel
theorem dJ9_min_f86c9_11 : decode cJ9_min_f86c9 11 = .ok (.lreturn, 1) := by decide +kernel
theorem dJ7_fill_53178_0 : decode cJ7_fill_53178 0 = .ok (.iconst 0, 1) := by decide +kernel
theorem dJ7_fill_53178_1 : decode cJ7_fill_53178 1 = .ok (.istore_n 2, 1) := by decide +kernel
theorem dJ7_fill_53178_2 : decode cJ7_fill_53178 2 = .ok (.aload_n 0, 1) := by decide +kernel
theorem dJ7_fill_53178_3 : decode cJ7_fill_53178 3 = .ok (.arraylength, 1) := by decide +kernel
theorem dJ7_fill_53178_4 : decode cJ7_fill_53178 4 = .ok (.istore_n 3, 1) := by decide +kernel
theorem dJ7_fill_53178_5 : decode cJ7_fill_53178 5 = .ok (.iload_n 2, 1) := by decide +kernel
theorem dJ7_fill_53178_6 : decode cJ7_fill_53178 6 = .ok (.iload_n 3, 1) := by decide +kernel
theorem dJ7_fill_53178_7 : decode cJ7_fill_53178 7 = .ok (.if_icmp .ge 13, 3) := by decide +kernel
theorem dJ7_fill_53178_10 : decode cJ7_fill_53178 10 = .ok (.aload_n 0, 1) := by decide +kernel
theorem dJ7_fill_53178_11 : decode cJ7_fill_53178 11 = .ok (.iload_n 2, 1) := by decide +kernel
theorem dJ7_fill_53178_12 : decode cJ7_fill_53178 12 = .ok (.iload_n 1, 1) := by decide +kernel
theorem dJ7_fill_53178_13 : decode cJ7_fill_53178 13 = .ok (.iastore, 1) := by decide +kernel
theorem dJ7_fill_53178_14 : decode cJ7_fill_53178 14 = .ok (.iinc 2 1, 3) := by decide +kernel
theorem dJ7_fill_53178_17 : decode cJ7_fill_53178 17 = .ok (.goto (-12), 3) := by decide +kernel
theorem dJ7_fill_53178_20 : decode cJ7_fill_53178 20 = .ok (.return_, 1) := by decide +kernel
theorem dL_law_0 : decode cL_law 0 = .ok (.new 7, 3) := by decide +kernel
theorem dL_law_3 : decode cL_law 3 = .ok (.dup, 1) := by decide +kernel
theorem dL_law_4 : decode cL_law 4 = .ok (.invokespecial 9, 3) := by decide +kernel
theorem dL_law_7 : decode cL_law 7 = .ok (.astore_n 1, 1) := by decide +kernel
theorem dL_law_8 : decode cL_law 8 = .ok (.new 10, 3) := by decide +kernel
theorem dL_law_11 : decode cL_law 11 = .ok (.dup, 1) := by decide +kernel
theorem dL_law_12 : decode cL_law 12 = .ok (.invokespecial 12, 3) := by decide +kernel
theorem dL_law_15 : decode cL_law 15 = .ok (.astore_n 2, 1) := by decide +kernel
theorem dL_law_16 : decode cL_law 16 = .ok (.iconst 0, 1) := by decide +kernel
theorem dL_law_17 : decode cL_law 17 = .ok (.istore_n 3, 1) := by decide +kernel
theorem dL_law_18 : decode cL_law 18 = .ok (.iload_n 3, 1) := by decide +kernel
theorem dL_law_19 : decode cL_law 19 = .ok (.aload_n 0, 1) := by decide +kernel
theorem dL_law_20 : decode cL_law 20 = .ok (.arraylength, 1) := by decide +kernel
theorem dL_law_21 : decode cL_law 21 = .ok (.bipush 6, 2) := by decide +kernel
theorem dL_law_23 : decode cL_law 23 = .ok (.isub, 1) := by decide +kernel
theorem dL_law_24 : decode cL_law 24 = .ok (.if_icmp .gt 1272, 3) := by decide +kernel
theorem dL_law_27 : decode cL_law 27 = .ok (.aload_n 0, 1) := by decide +kernel
theorem dL_law_28 : decode cL_law 28 = .ok (.iload_n 3, 1) := by decide +kernel
theorem dL_law_29 : decode cL_law 29 = .ok (.iaload, 1) := by decide +kernel
theorem dL_law_30 : decode cL_law 30 = .ok (.bipush 63, 2) := by decide +kernel
theorem dL_law_32 : decode cL_law 32 = .ok (.iand, 1) := by decide +kernel
theorem dL_law_33 : decode cL_law 33 = .ok (.tableswitch 1257 0 35 #[159, 222, 245, 258, 281, 304, 347, 370, 403, 436, 469, 492, 525, 558, 601, 654, 697, 720, 753, 776, 809, 842, 865, 878, 901, 934, 967, 1000, 1043, 1076, 1119, 1152, 1185, 1198, 1221, 1234], 159) := by decide +kernel
theorem dL_law_192 : decode cL_law 192 = .ok (.aload_n 1, 1) := by decide +kernel
theorem dL_law_193 : decode cL_law 193 = .ok (.aload_n 0, 1) := by decide +kernel
theorem dL_law_194 : decode cL_law 194 = .ok (.iload_n 3, 1) := by decide +kernel
theorem dL_law_195 : decode cL_law 195 = .ok (.iconst 1, 1) := by decide +kernel
theorem dL_law_196 : decode cL_law 196 = .ok (.iadd, 1) := by decide +kernel
theorem dL_law_197 : decode cL_law 197 = .ok (.iaload, 1) := by decide +kernel
theorem dL_law_198 : decode cL_law 198 = .ok (.aload_n 0, 1) := by decide +kernel
theorem dL_law_199 : decode cL_law 199 = .ok (.iload_n 3, 1) := by decide +kernel
theorem dL_law_200 : decode cL_law 200 = .ok (.iconst 2, 1) := by decide +kernel
theorem dL_law_201 : decode cL_law 201 = .ok (.iadd, 1) := by decide +kernel
theorem dL_law_202 : decode cL_law 202 = .ok (.iaload, 1) := by decide +kernel
theorem dL_law_203 : decode cL_law 203 = .ok (.aload_n 0, 1) := by decide +kernel
theorem dL_law_204 : decode cL_law 204 = .ok (.iload_n 3, 1) := by decide +kernel
theorem dL_law_205 : decode cL_law 205 = .ok (.iconst 3, 1) := by decide +kernel
theorem dL_law_206 : decode cL_law 206 = .ok (.iadd, 1) := by decide +kernel
theorem dL_law_207 : decode cL_law 207 = .ok (.iaload, 1) := by decide +kernel
theorem dL_law_208 : decode cL_law 208 = .ok (.aload_n 0, 1) := by decide +kernel
theorem dL_law_209 : decode cL_law 209 = .ok (.iload_n 3, 1) := by decide +kernel
theorem dL_law_210 : decode cL_law 210 = .ok (.iconst 4, 1) := by decide +kernel
theorem dL_law_211 : decode cL_law 211 = .ok (.iadd, 1) := by decide +kernel
theorem dL_law_212 : decode cL_law 212 = .ok (.iaload, 1) := by decide +kernel
theorem dL_law_213 : decode cL_law 213 = .ok (.aload_n 0, 1) := by decide +kernel
theorem dL_law_214 : decode cL_law 214 = .ok (.iload_n 3, 1) := by decide +kernel
theorem dL_law_215 : decode cL_law 215 = .ok (.iconst 5, 1) := by decide +kernel
theorem dL_law_216 : decode cL_law 216 = .ok (.iadd, 1) := by decide +kernel
theorem dL_law_217 : decode cL_law 217 = .ok (.iaload, 1) := by decide +kernel
theorem dL_law_218 : decode cL_law 218 = .ok (.invokevirtual 13, 3) := by decide +kernel
theorem dL_law_221 : decode cL_law 221 = .ok (.aload_n 2, 1) := by decide +kernel
theorem dL_law_222 : decode cL_law 222 = .ok (.aload_n 0, 1) := by decide +kernel
theorem dL_law_223 : decode cL_law 223 = .ok (.iload_n 3, 1) := by decide +kernel
theorem dL_law_224 : decode cL_law 224 = .ok (.iconst 1, 1) := by decide +kernel
theorem dL_law_225 : decode cL_law 225 = .ok (.iadd, 1) := by decide +kernel
theorem dL_law_226 : decode cL_law 226 = .ok (.iaload, 1) := by decide +kernel
theorem dL_law_227 : decode cL_law 227 = .ok (.aload_n 0, 1) := by decide +kernel
theorem dL_law_228 : decode cL_law 228 = .ok (.iload_n 3, 1) := by decide +kernel
theorem dL_law_229 : decode cL_law 229 = .ok (.iconst 2, 1) := by decide +kernel
theorem dL_law_230 : decode cL_law 230 = .ok (.iadd, 1) := by decide +kernel
theorem dL_law_231 : decode cL_law 231 = .ok (.iaload, 1) := by decide +kernel
theorem dL_law_232 : decode cL_law 232 = .ok (.aload_n 0, 1) := by decide +kernel
theorem dL_law_233 : decode cL_law 233 = .ok (.iload_n 3, 1) := by decide +kernel
theorem dL_law_234 : decode cL_law 234 = .ok (.iconst 3, 1) := by decide +kernel
theorem dL_law_235 : decode cL_law 235 = .ok (.iadd, 1) := by decide +kernel
theorem dL_law_236 : decode cL_law 236 = .ok (.iaload, 1) := by decide +kernel
theorem dL_law_237 : decode cL_law 237 = .ok (.aload_n 0, 1) := by decide +kernel
theorem dL_law_238 : decode cL_law 238 = .ok (.iload_n 3, 1) := by decide +kernel
theorem dL_law_239 : decode cL_law 239 = .ok (.iconst 4, 1) := by decide +kernel
theorem dL_law_240 : decode cL_law 240 = .ok (.iadd, 1) := by decide +kernel
theorem dL_law_241 : decode cL_law 241 = .ok (.iaload, 1) := by decide +kernel
theorem dL_law_242 : decode cL_law 242 = .ok (.aload_n 0, 1) := by decide +kernel
theorem dL_law_243 : decode cL_law 243 = .ok (.iload_n 3, 1) := by decide +kernel
theorem dL_law_244 : decode cL_law 244 = .ok (.iconst 5, 1) := by decide +kernel
theorem dL_law_245 : decode cL_law 245 = .ok (.iadd, 1) := by decide +kernel
theorem dL_law_246 : decode cL_law 246 = .ok (.iaload, 1) := by decide +kernel
theorem dL_law_247 : decode cL_law 247 = .ok (.invokevirtual 17, 3) := by decide +kernel
theorem dL_law_250 : decode cL_law 250 = .ok (.if_icmp .eq 1040, 3) := by decide +kernel
theorem dL_law_253 : decode cL_law 253 = .ok (.iconst 0, 1) := by decide +kernel
theorem dL_law_254 : decode cL_law 254 = .ok (.ireturn, 1) := by decide +kernel
theorem dL_law_255 : decode cL_law 255 = .ok (.aload_n 1, 1) := by decide +kernel
theorem dL_law_256 : decode cL_law 256 = .ok (.aload_n 0, 1) := by decide +kernel
theorem dL_law_257 : decode cL_law 257 = .ok (.iload_n 3, 1) := by decide +kernel
theorem dL_law_258 : decode cL_law 258 = .ok (.iconst 1, 1) := by decide +kernel
theorem dL_law_259 : decode cL_law 259 = .ok (.iadd, 1) := by decide +kernel
theorem dL_law_260 : decode cL_law 260 = .ok (.iaload, 1) := by decide +kernel
theorem dL_law_261 : decode cL_law 261 = .ok (.invokevirtual 18, 3) := by decide +kernel
theorem dL_law_264 : decode cL_law 264 = .ok (.aload_n 2, 1) := by decide +kernel
theorem dL_law_265 : decode cL_law 265 = .ok (.aload_n 0, 1) := by decide +kernel
theorem dL_law_266 : decode cL_law 266 = .ok (.iload_n 3, 1) := by decide +kernel
theorem dL_law_267 : decode cL_law 267 = .ok (.iconst 1, 1) := by decide +kernel
theorem dL_law_268 : decode cL_law 268 = .ok (.iadd, 1) := by decide +kernel
theorem dL_law_269 : decode cL_law 269 = .ok (.iaload, 1) := by decide +kernel
theorem dL_law_270 : decode cL_law 270 = .ok (.invokevirtual 22, 3) := by decide +kernel
theorem dL_law_273 : decode cL_law 273 = .ok (.if_icmp .eq 1017, 3) := by decide +kernel
theorem dL_law_276 : decode cL_law 276 = .ok (.iconst 0, 1) := by decide +kernel
theorem dL_law_277 : decode cL_law 277 = .ok (.ireturn, 1) := by decide +kernel
theorem dL_law_278 : decode cL_law 278 = .ok (.aload_n 1, 1) := by decide +kernel
theorem dL_law_279 : decode cL_law 279 = .ok (.invokevirtual 23, 3) := by decide +kernel
theorem dL_law_282 : decode cL_law 282 = .ok (.aload_n 2, 1) := by decide +kernel
theorem dL_law_283 : decode cL_law 283 = .ok (.invokevirtual 27, 3) := by decide +kernel
theorem dL_law_286 : decode cL_law 286 = .ok (.if_icmp .eq 1004, 3) := by decide +kernel
theorem dL_law_289 : decode cL_law 289 = .ok (.iconst 0, 1) := by decide +kernel
theorem dL_law_290 : decode cL_law 290 = .ok (.ireturn, 1) := by decide +kernel
theorem dL_law_291 : decode cL_law 291 = .ok (.aload_n 1, 1) := by decide +kernel
theorem dL_law_292 : decode cL_law 292 = .ok (.aload_n 0, 1) := by decide +kernel
theorem dL_law_293 : decode cL_law 293 = .ok (.iload_n 3, 1) := by decide +kernel
theorem dL_law_294 : decode cL_law 294 = .ok (.iconst 1, 1) := by decide +kernel
theorem dL_law_295 : decode cL_law 295 = .ok (.iadd, 1) := by decide +kernel
theorem dL_law_296 : decode cL_law 296 = .ok (.iaload, 1) := by decide +kernel
theorem dL_law_297 : decode cL_law 297 = .ok (.invokevirtual 28, 3) := by decide +kernel
theorem dL_law_300 : decode cL_law 300 = .ok (.aload_n 2, 1) := by decide +kernel
theorem dL_law_301 : decode cL_law 301 = .ok (.aload_n 0, 1) := by decide +kernel
theorem dL_law_302 : decode cL_law 302 = .ok (.iload_n 3, 1) := by decide +kernel
theorem dL_law_303 : decode cL_law 303 = .ok (.iconst 1, 1) := by decide +kernel
theorem dL_law_304 : decode cL_law 304 = .ok (.iadd, 1) := by decide +kernel
theorem dL_law_305 : decode cL_law 305 = .ok (.iaload, 1) := by decide +kernel
theorem dL_law_306 : decode cL_law 306 = .ok (.invokevirtual 32, 3) := by decide +kernel
theorem dL_law_309 : decode cL_law 309 = .ok (.if_icmp .eq 981, 3) := by decide +kernel
theorem dL_law_312 : decode cL_law 312 = .ok (.iconst 0, 1) := by decide +kernel
theorem dL_law_313 : decode cL_law 313 = .ok (.ireturn, 1) := by decide +kernel
theorem dL_law_314 : decode cL_law 314 = .ok (.aload_n 1, 1) := by decide +kernel
theorem dL_law_315 : decode cL_law 315 = .ok (.aload_n 0, 1) := by decide +kernel
theorem dL_law_316 : decode cL_law 316 = .ok (.iload_n 3, 1) := by decide +kernel
theorem dL_law_317 : decode cL_law 317 = .ok (.iconst 1, 1) := by decide +kernel
theorem dL_law_318 : decode cL_law 318 = .ok (.iadd, 1) := by decide +kernel
theorem dL_law_319 : decode cL_law 319 = .ok (.iaload, 1) := by decide +kernel
theorem dL_law_320 : decode cL_law 320 = .ok (.invokevirtual 33, 3) := by decide +kernel
theorem dL_law_323 : decode cL_law 323 = .ok (.aload_n 2, 1) := by decide +kernel
theorem dL_law_324 : decode cL_law 324 = .ok (.aload_n 0, 1) := by decide +kernel
theorem dL_law_325 : decode cL_law 325 = .ok (.iload_n 3, 1) := by decide +kernel
theorem dL_law_326 : decode cL_law 326 = .ok (.iconst 1, 1) := by decide +kernel
theorem dL_law_327 : decode cL_law 327 = .ok (.iadd, 1) := by decide +kernel
theorem dL_law_328 : decode cL_law 328 = .ok (.iaload, 1) := by decide +kernel
theorem dL_law_329 : decode cL_law 329 = .ok (.invokevirtual 36, 3) := by decide +kernel
theorem dL_law_332 : decode cL_law 332 = .ok (.if_icmp .eq 958, 3) := by decide +kernel
theorem dL_law_335 : decode cL_law 335 = .ok (.iconst 0, 1) := by decide +kernel
theorem dL_law_336 : decode cL_law 336 = .ok (.ireturn, 1) := by decide +kernel
theorem dL_law_337 : decode cL_law 337 = .ok (.aload_n 1, 1) := by decide +kernel
theorem dL_law_338 : decode cL_law 338 = .ok (.aload_n 0, 1) := by decide +kernel
theorem dL_law_339 : decode cL_law 339 = .ok (.iload_n 3, 1) := by decide +kernel
theorem dL_law_340 : decode cL_law 340 = .ok (.iconst 1, 1) := by decide +kernel
theorem dL_law_341 : decode cL_law 341 = .ok (.iadd, 1) := by decide +kernel
theorem dL_law_342 : decode cL_law 342 = .ok (.iaload, 1) := by decide +kernel
theorem dL_law_343 : decode cL_law 343 = .ok (.aload_n 0, 1) := by decide +kernel
theorem dL_law_344 : decode cL_law 344 = .ok (.iload_n 3, 1) := by decide +kernel
theorem dL_law_345 : decode cL_law 345 = .ok (.iconst 2, 1) := by decide +kernel
theorem dL_law_346 : decode cL_law 346 = .ok (.iadd, 1) := by decide +kernel
theorem dL_law_347 : decode cL_law 347 = .ok (.iaload, 1) := by decide +kernel
theorem dL_law_348 : decode cL_law 348 = .ok (.aload_n 0, 1) := by decide +kernel
theorem dL_law_349 : decode cL_law 349 = .ok (.iload_n 3, 1) := by decide +kernel
theorem dL_law_350 : decode cL_law 350 = .ok (.iconst 3, 1) := by decide +kernel
theorem dL_law_351 : decode cL_law 351 = .ok (.iadd, 1) := by decide +kernel
theorem dL_law_352 : decode cL_law 352 = .ok (.iaload, 1) := by decide +kernel
theorem dL_law_353 : decode cL_law 353 = .ok (.invokevirtual 37, 3) := by decide +kernel
theorem dL_law_356 : decode cL_law 356 = .ok (.aload_n 2, 1) := by decide +kernel
theorem dL_law_357 : decode cL_law 357 = .ok (.aload_n 0, 1) := by decide +kernel
theorem dL_law_358 : decode cL_law 358 = .ok (.iload_n 3, 1) := by decide +kernel
theorem dL_law_359 : decode cL_law 359 = .ok (.iconst 1, 1) := by decide +kernel
theorem dL_law_360 : decode cL_law 360 = .ok (.iadd, 1) := by decide +kernel
theorem dL_law_361 : decode cL_law 361 = .ok (.iaload, 1) := by decide +kernel
theorem dL_law_362 : decode cL_law 362 = .ok (.aload_n 0, 1) := by decide +kernel
theorem dL_law_363 : decode cL_law 363 = .ok (.iload_n 3, 1) := by decide +kernel
theorem dL_law_364 : decode cL_law 364 = .ok (.iconst 2, 1) := by decide +kernel
theorem dL_law_365 : decode cL_law 365 = .ok (.iadd, 1) := by decide +kernel
theorem dL_law_366 : decode cL_law 366 = .ok (.iaload, 1) := by decide +kernel
theorem dL_law_367 : decode cL_law 367 = .ok (.aload_n 0, 1) := by decide +kernel
theorem dL_law_368 : decode cL_law 368 = .ok (.iload_n 3, 1) := by decide +kernel
theorem dL_law_369 : decode cL_law 369 = .ok (.iconst 3, 1) := by decide +kernel
theorem dL_law_370 : decode cL_law 370 = .ok (.iadd, 1) := by decide +kernel
theorem dL_law_371 : decode cL_law 371 = .ok (.iaload, 1) := by decide +kernel
theorem dL_law_372 : decode cL_law 372 = .ok (.invokevirtual 41, 3) := by decide +kernel
theorem dL_law_375 : decode cL_law 375 = .ok (.if_icmp .eq 915, 3) := by decide +kernel
theorem dL_law_378 : decode cL_law 378 = .ok (.iconst 0, 1) := by decide +kernel
theorem dL_law_379 : decode cL_law 379 = .ok (.ireturn, 1) := by decide +kernel
theorem dL_law_380 : decode cL_law 380 = .ok (.aload_n 1, 1) := by decide +kernel
theorem dL_law_381 : decode cL_law 381 = .ok (.aload_n 0, 1) := by decide +kernel
theorem dL_law_382 : decode cL_law 382 = .ok (.iload_n 3, 1) := by decide +kernel
theorem dL_law_383 : decode cL_law 383 = .ok (.iconst 1, 1) := by decide +kernel
theorem dL_law_384 : decode cL_law 384 = .ok (.iadd, 1) := by decide +kernel
theorem dL_law_385 : decode cL_law 385 = .ok (.iaload, 1) := by decide +kernel
theorem dL_law_386 : decode cL_law 386 = .ok (.invokevirtual 42, 3) := by decide +kernel
theorem dL_law_389 : decode cL_law 389 = .ok (.aload_n 2, 1) := by decide +kernel
theorem dL_law_390 : decode cL_law 390 = .ok (.aload_n 0, 1) := by decide +kernel
theorem dL_law_391 : decode cL_law 391 = .ok (.iload_n 3, 1) := by decide +kernel
theorem dL_law_392 : decode cL_law 392 = .ok (.iconst 1, 1) := by decide +kernel
theorem dL_law_393 : decode cL_law 393 = .ok (.iadd, 1) := by decide +kernel
theorem dL_law_394 : decode cL_law 394 = .ok (.iaload, 1) := by decide +kernel
theorem dL_law_395 : decode cL_law 395 = .ok (.invokevirtual 45, 3) := by decide +kernel
theorem dL_law_398 : decode cL_law 398 = .ok (.if_icmp .eq 892, 3) := by decide +kernel
theorem dL_law_401 : decode cL_law 401 = .ok (.iconst 0, 1) := by decide +kernel
theorem dL_law_402 : decode cL_law 402 = .ok (.ireturn, 1) := by decide +kernel
theorem dL_law_403 : decode cL_law 403 = .ok (.aload_n 1, 1) := by decide +kernel
theorem dL_law_404 : decode cL_law 404 = .ok (.aload_n 0, 1) := by decide +kernel
theorem dL_law_405 : decode cL_law 405 = .ok (.iload_n 3, 1) := by decide +kernel
theorem dL_law_406 : decode cL_law 406 = .ok (.iconst 1, 1) := by decide +kernel
theorem dL_law_407 : decode cL_law 407 = .ok (.iadd, 1) := by decide +kernel
theorem dL_law_408 : decode cL_law 408 = .ok (.iaload, 1) := by decide +kernel
theorem dL_law_409 : decode cL_law 409 = .ok (.aload_n 0, 1) := by decide +kernel
theorem dL_law_410 : decode cL_law 410 = .ok (.iload_n 3, 1) := by decide +kernel
theorem dL_law_411 : decode cL_law 411 = .ok (.iconst 2, 1) := by decide +kernel
theorem dL_law_412 : decode cL_law 412 = .ok (.iadd, 1) := by decide +kernel
theorem dL_law_413 : decode cL_law 413 = .ok (.iaload, 1) := by decide +kernel
theorem dL_law_414 : decode cL_law 414 = .ok (.invokevirtual 46, 3) := by decide +kernel
theorem dL_law_417 : decode cL_law 417 = .ok (.aload_n 2, 1) := by decide +kernel
theorem dL_law_418 : decode cL_law 418 = .ok (.aload_n 0, 1) := by decide +kernel
theorem dL_law_419 : decode cL_law 419 = .ok (.iload_n 3, 1) := by decide +kernel
theorem dL_law_420 : decode cL_law 420 = .ok (.iconst 1, 1) := by decide +kernel
theorem dL_law_421 : decode cL_law 421 = .ok (.iadd, 1) := by decide +kernel
theorem dL_law_422 : decode cL_law 422 = .ok (.iaload, 1) := by decide +kernel
theorem dL_law_423 : decode cL_law 423 = .ok (.aload_n 0, 1) := by decide +kernel
theorem dL_law_424 : decode cL_law 424 = .ok (.iload_n 3, 1) := by decide +kernel
theorem dL_law_425 : decode cL_law 425 = .ok (.iconst 2, 1) := by decide +kernel
theorem dL_law_426 : decode cL_law 426 = .ok (.iadd, 1) := by decide +kernel
theorem dL_law_427 : decode cL_law 427 = .ok (.iaload, 1) := by decide +kernel
theorem dL_law_428 : decode cL_law 428 = .ok (.invokevirtual 50, 3) := by decide +kernel
theorem dL_law_431 : decode cL_law 431 = .ok (.if_icmp .eq 859, 3) := by decide +kernel
theorem dL_law_434 : decode cL_law 434 = .ok (.iconst 0, 1) := by decide +kernel
theorem dL_law_435 : decode cL_law 435 = .ok (.ireturn, 1) := by decide +kernel
theorem dL_law_436 : decode cL_law 436 = .ok (.aload_n 1, 1) := by decide +kernel
theorem dL_law_437 : decode cL_law 437 = .ok (.aload_n 0, 1) := by decide +kernel
theorem dL_law_438 : decode cL_law 438 = .ok (.iload_n 3, 1) := by decide +kernel
theorem dL_law_439 : decode cL_law 439 = .ok (.iconst 1, 1) := by decide +kernel
theorem dL_law_440 : decode cL_law 440 = .ok (.iadd, 1) := by decide +kernel
theorem dL_law_441 : decode cL_law 441 = .ok (.iaload, 1) := by decide +kernel
theorem dL_law_442 : decode cL_law 442 = .ok (.aload_n 0, 1) := by decide +kernel
theorem dL_law_443 : decode cL_law 443 = .ok (.iload_n 3, 1) := by decide +kernel
theorem dL_law_444 : decode cL_law 444 = .ok (.iconst 2, 1) := by decide +kernel
theorem dL_law_445 : decode cL_law 445 = .ok (.iadd, 1) := by decide +kernel
theorem dL_law_446 : decode cL_law 446 = .ok (.iaload, 1) := by decide +kernel
theorem dL_law_447 : decode cL_law 447 = .ok (.invokevirtual 51, 3) := by decide +kernel
theorem dL_law_450 : decode cL_law 450 = .ok (.aload_n 2, 1) := by decide +kernel
theorem dL_law_451 : decode cL_law 451 = .ok (.aload_n 0, 1) := by decide +kernel
theorem dL_law_452 : decode cL_law 452 = .ok (.iload_n 3, 1) := by decide +kernel
theorem dL_law_453 : decode cL_law 453 = .ok (.iconst 1, 1) := by decide +kernel
theorem dL_law_454 : decode cL_law 454 = .ok (.iadd, 1) := by decide +kernel
theorem dL_law_455 : decode cL_law 455 = .ok (.iaload, 1) := by decide +kernel
theorem dL_law_456 : decode cL_law 456 = .ok (.aload_n 0, 1) := by decide +kernel
theorem dL_law_457 : decode cL_law 457 = .ok (.iload_n 3, 1) := by decide +kernel
theorem dL_law_458 : decode cL_law 458 = .ok (.iconst 2, 1) := by decide +kernel
theorem dL_law_459 : decode cL_law 459 = .ok (.iadd, 1) := by decide +kernel
theorem dL_law_460 : decode cL_law 460 = .ok (.iaload, 1) := by decide +kernel
theorem dL_law_461 : decode cL_law 461 = .ok (.invokevirtual 54, 3) := by decide +kernel
theorem dL_law_464 : decode cL_law 464 = .ok (.if_icmp .eq 826, 3) := by decide +kernel
theorem dL_law_467 : decode cL_law 467 = .ok (.iconst 0, 1) := by decide +kernel
theorem dL_law_468 : decode cL_law 468 = .ok (.ireturn, 1) := by decide +kernel
theorem dL_law_469 : decode cL_law 469 = .ok (.aload_n 1, 1) := by decide +kernel
theorem dL_law_470 : decode cL_law 470 = .ok (.aload_n 0, 1) := by decide +kernel
theorem dL_law_471 : decode cL_law 471 = .ok (.iload_n 3, 1) := by decide +kernel
theorem dL_law_472 : decode cL_law 472 = .ok (.iconst 1, 1) := by decide +kernel
theorem dL_law_473 : decode cL_law 473 = .ok (.iadd, 1) := by decide +kernel
theorem dL_law_474 : decode cL_law 474 = .ok (.iaload, 1) := by decide +kernel
theorem dL_law_475 : decode cL_law 475 = .ok (.aload_n 0, 1) := by decide +kernel
theorem dL_law_476 : decode cL_law 476 = .ok (.iload_n 3, 1) := by decide +kernel
theorem dL_law_477 : decode cL_law 477 = .ok (.iconst 2, 1) := by decide +kernel
theorem dL_law_478 : decode cL_law 478 = .ok (.iadd, 1) := by decide +kernel
theorem dL_law_479 : decode cL_law 479 = .ok (.iaload, 1) := by decide +kernel
theorem dL_law_480 : decode cL_law 480 = .ok (.invokevirtual 55, 3) := by decide +kernel
theorem dL_law_483 : decode cL_law 483 = .ok (.aload_n 2, 1) := by decide +kernel
theorem dL_law_484 : decode cL_law 484 = .ok (.aload_n 0, 1) := by decide +kernel
theorem dL_law_485 : decode cL_law 485 = .ok (.iload_n 3, 1) := by decide +kernel
theorem dL_law_486 : decode cL_law 486 = .ok (.iconst 1, 1) := by decide +kernel
theorem dL_law_487 : decode cL_law 487 = .ok (.iadd, 1) := by decide +kernel
theorem dL_law_488 : decode cL_law 488 = .ok (.iaload, 1) := by decide +kernel
theorem dL_law_489 : decode cL_law 489 = .ok (.aload_n 0, 1) := by decide +kernel
theorem dL_law_490 : decode cL_law 490 = .ok (.iload_n 3, 1) := by decide +kernel
theorem dL_law_491 : decode cL_law 491 = .ok (.iconst 2, 1) := by decide +kernel
theorem dL_law_492 : decode cL_law 492 = .ok (.iadd, 1) := by decide +kernel
theorem dL_law_493 : decode cL_law 493 = .ok (.iaload, 1) := by decide +kernel
theorem dL_law_494 : decode cL_law 494 = .ok (.invokevirtual 58, 3) := by decide +kernel
theorem dL_law_497 : decode cL_law 497 = .ok (.if_icmp .eq 793, 3) := by decide +kernel
theorem dL_law_500 : decode cL_law 500 = .ok (.iconst 0, 1) := by decide +kernel
theorem dL_law_501 : decode cL_law 501 = .ok (.ireturn, 1) := by decide +kernel
theorem dL_law_502 : decode cL_law 502 = .ok (.aload_n 1, 1) := by decide +kernel
theorem dL_law_503 : decode cL_law 503 = .ok (.aload_n 0, 1) := by decide +kernel
theorem dL_law_504 : decode cL_law 504 = .ok (.iload_n 3, 1) := by decide +kernel
theorem dL_law_505 : decode cL_law 505 = .ok (.iconst 1, 1) := by decide +kernel
theorem dL_law_506 : decode cL_law 506 = .ok (.iadd, 1) := by decide +kernel
theorem dL_law_507 : decode cL_law 507 = .ok (.iaload, 1) := by decide +kernel
theorem dL_law_508 : decode cL_law 508 = .ok (.invokevirtual 59, 3) := by decide +kernel
theorem dL_law_511 : decode cL_law 511 = .ok (.aload_n 2, 1) := by decide +kernel
theorem dL_law_512 : decode cL_law 512 = .ok (.aload_n 0, 1) := by decide +kernel
theorem dL_law_513 : decode cL_law 513 = .ok (.iload_n 3, 1) := by decide +kernel
theorem dL_law_514 : decode cL_law 514 = .ok (.iconst 1, 1) := by decide +kernel
theorem dL_law_515 : decode cL_law 515 = .ok (.iadd, 1) := by decide +kernel
theorem dL_law_516 : decode cL_law 516 = .ok (.iaload, 1) := by decide +kernel
theorem dL_law_517 : decode cL_law 517 = .ok (.invokevirtual 62, 3) := by decide +kernel
theorem dL_law_520 : decode cL_law 520 = .ok (.if_icmp .eq 770, 3) := by decide +kernel
theorem dL_law_523 : decode cL_law 523 = .ok (.iconst 0, 1) := by decide +kernel
theorem dL_law_524 : decode cL_law 524 = .ok (.ireturn, 1) := by decide +kernel
theorem dL_law_525 : decode cL_law 525 = .ok (.aload_n 1, 1) := by decide +kernel
theorem dL_law_526 : decode cL_law 526 = .ok (.aload_n 0, 1) := by decide +kernel
theorem dL_law_527 : decode cL_law 527 = .ok (.iload_n 3, 1) := by decide +kernel
theorem dL_law_528 : decode cL_law 528 = .ok (.iconst 1, 1) := by decide +kernel
theorem dL_law_529 : decode cL_law 529 = .ok (.iadd, 1) := by decide +kernel
theorem dL_law_530 : decode cL_law 530 = .ok (.iaload, 1) := by decide +kernel
theorem dL_law_531 : decode cL_law 531 = .ok (.aload_n 0, 1) := by decide +kernel
theorem dL_law_532 : decode cL_law 532 = .ok (.iload_n 3, 1) := by decide +kernel
theorem dL_law_533 : decode cL_law 533 = .ok (.iconst 2, 1) := by decide +kernel
theorem dL_law_534 : decode cL_law 534 = .ok (.iadd, 1) := by decide +kernel
theorem dL_law_535 : decode cL_law 535 = .ok (.iaload, 1) := by decide +kernel
theorem dL_law_536 : decode cL_law 536 = .ok (.invokevirtual 63, 3) := by decide +kernel
theorem dL_law_539 : decode cL_law 539 = .ok (.aload_n 2, 1) := by decide +kernel
theorem dL_law_540 : decode cL_law 540 = .ok (.aload_n 0, 1) := by decide +kernel
theorem dL_law_541 : decode cL_law 541 = .ok (.iload_n 3, 1) := by decide +kernel
theorem dL_law_542 : decode cL_law 542 = .ok (.iconst 1, 1) := by decide +kernel
theorem dL_law_543 : decode cL_law 543 = .ok (.iadd, 1) := by decide +kernel
theorem dL_law_544 : decode cL_law 544 = .ok (.iaload, 1) := by decide +kernel
theorem dL_law_545 : decode cL_law 545 = .ok (.aload_n 0, 1) := by decide +kernel
theorem dL_law_546 : decode cL_law 546 = .ok (.iload_n 3, 1) := by decide +kernel
theorem dL_law_547 : decode cL_law 547 = .ok (.iconst 2, 1) := by decide +kernel
theorem dL_law_548 : decode cL_law 548 = .ok (.iadd, 1) := by decide +kernel
theorem dL_law_549 : decode cL_law 549 = .ok (.iaload, 1) := by decide +kernel
theorem dL_law_550 : decode cL_law 550 = .ok (.invokevirtual 66, 3) := by decide +kernel
theorem dL_law_553 : decode cL_law 553 = .ok (.if_icmp .eq 737, 3) := by decide +kernel
theorem dL_law_556 : decode cL_law 556 = .ok (.iconst 0, 1) := by decide +kernel
theorem dL_law_557 : decode cL_law 557 = .ok (.ireturn, 1) := by decide +kernel
theorem dL_law_558 : decode cL_law 558 = .ok (.aload_n 1, 1) := by decide +kernel
theorem dL_law_559 : decode cL_law 559 = .ok (.aload_n 0, 1) := by decide +kernel
theorem dL_law_560 : decode cL_law 560 = .ok (.iload_n 3, 1) := by decide +kernel
theorem dL_law_561 : decode cL_law 561 = .ok (.iconst 1, 1) := by decide +kernel
theorem dL_law_562 : decode cL_law 562 = .ok (.iadd, 1) := by decide +kernel
theorem dL_law_563 : decode cL_law 563 = .ok (.iaload, 1) := by decide +kernel
theorem dL_law_564 : decode cL_law 564 = .ok (.aload_n 0, 1) := by decide +kernel
theorem dL_law_565 : decode cL_law 565 = .ok (.iload_n 3, 1) := by decide +kernel
theorem dL_law_566 : decode cL_law 566 = .ok (.iconst 2, 1) := by decide +kernel
theorem dL_law_567 : decode cL_law 567 = .ok (.iadd, 1) := by decide +kernel
theorem dL_law_568 : decode cL_law 568 = .ok (.iaload, 1) := by decide +kernel
theorem dL_law_569 : decode cL_law 569 = .ok (.invokevirtual 67, 3) := by decide +kernel
theorem dL_law_572 : decode cL_law 572 = .ok (.aload_n 2, 1) := by decide +kernel
theorem dL_law_573 : decode cL_law 573 = .ok (.aload_n 0, 1) := by decide +kernel
theorem dL_law_574 : decode cL_law 574 = .ok (.iload_n 3, 1) := by decide +kernel
theorem dL_law_575 : decode cL_law 575 = .ok (.iconst 1, 1) := by decide +kernel
theorem dL_law_576 : decode cL_law 576 = .ok (.iadd, 1) := by decide +kernel
theorem dL_law_577 : decode cL_law 577 = .ok (.iaload, 1) := by decide +kernel
theorem dL_law_578 : decode cL_law 578 = .ok (.aload_n 0, 1) := by decide +kernel
theorem dL_law_579 : decode cL_law 579 = .ok (.iload_n 3, 1) := by decide +kernel
theorem dL_law_580 : decode cL_law 580 = .ok (.iconst 2, 1) := by decide +kernel
theorem dL_law_581 : decode cL_law 581 = .ok (.iadd, 1) := by decide +kernel
theorem dL_law_582 : decode cL_law 582 = .ok (.iaload, 1) := by decide +kernel
theorem dL_law_583 : decode cL_law 583 = .ok (.invokevirtual 70, 3) := by decide +kernel
theorem dL_law_586 : decode cL_law 586 = .ok (.if_icmp .eq 704, 3) := by decide +kernel
theorem dL_law_589 : decode cL_law 589 = .ok (.iconst 0, 1) := by decide +kernel
theorem dL_law_590 : decode cL_law 590 = .ok (.ireturn, 1) := by decide +kernel
theorem dL_law_591 : decode cL_law 591 = .ok (.aload_n 1, 1) := by decide +kernel
theorem dL_law_592 : decode cL_law 592 = .ok (.aload_n 0, 1) := by decide +kernel
theorem dL_law_593 : decode cL_law 593 = .ok (.iload_n 3, 1) := by decide +kernel
theorem dL_law_594 : decode cL_law 594 = .ok (.iconst 1, 1) := by decide +kernel
theorem dL_law_595 : decode cL_law 595 = .ok (.iadd, 1) := by decide +kernel
theorem dL_law_596 : decode cL_law 596 = .ok (.iaload, 1) := by decide +kernel
theorem dL_law_597 : decode cL_law 597 = .ok (.aload_n 0, 1) := by decide +kernel
theorem dL_law_598 : decode cL_law 598 = .ok (.iload_n 3, 1) := by decide +kernel
theorem dL_law_599 : decode cL_law 599 = .ok (.iconst 2, 1) := by decide +kernel
theorem dL_law_600 : decode cL_law 600 = .ok (.iadd, 1) := by decide +kernel
theorem dL_law_601 : decode cL_law 601 = .ok (.iaload, 1) := by decide +kernel
theorem dL_law_602 : decode cL_law 602 = .ok (.aload_n 0, 1) := by decide +kernel
theorem dL_law_603 : decode cL_law 603 = .ok (.iload_n 3, 1) := by decide +kernel
theorem dL_law_604 : decode cL_law 604 = .ok (.iconst 3, 1) := by decide +kernel
theorem dL_law_605 : decode cL_law 605 = .ok (.iadd, 1) := by decide +kernel
theorem dL_law_606 : decode cL_law 606 = .ok (.iaload, 1) := by decide +kernel
theorem dL_law_607 : decode cL_law 607 = .ok (.invokevirtual 71, 3) := by decide +kernel
theorem dL_law_610 : decode cL_law 610 = .ok (.aload_n 2, 1) := by decide +kernel
theorem dL_law_611 : decode cL_law 611 = .ok (.aload_n 0, 1) := by decide +kernel
theorem dL_law_612 : decode cL_law 612 = .ok (.iload_n 3, 1) := by decide +kernel
theorem dL_law_613 : decode cL_law 613 = .ok (.iconst 1, 1) := by decide +kernel
theorem dL_law_614 : decode cL_law 614 = .ok (.iadd, 1) := by decide +kernel
theorem dL_law_615 : decode cL_law 615 = .ok (.iaload, 1) := by decide +kernel
theorem dL_law_616 : decode cL_law 616 = .ok (.aload_n 0, 1) := by decide +kernel
theorem dL_law_617 : decode cL_law 617 = .ok (.iload_n 3, 1) := by decide +kernel
theorem dL_law_618 : decode cL_law 618 = .ok (.iconst 2, 1) := by decide +kernel
theorem dL_law_619 : decode cL_law 619 = .ok (.iadd, 1) := by decide +kernel
theorem dL_law_620 : decode cL_law 620 = .ok (.iaload, 1) := by decide +kernel
theorem dL_law_621 : decode cL_law 621 = .ok (.aload_n 0, 1) := by decide +kernel
theorem dL_law_622 : decode cL_law 622 = .ok (.iload_n 3, 1) := by decide +kernel
theorem dL_law_623 : decode cL_law 623 = .ok (.iconst 3, 1) := by decide +kernel
theorem dL_law_624 : decode cL_law 624 = .ok (.iadd, 1) := by decide +kernel
theorem dL_law_625 : decode cL_law 625 = .ok (.iaload, 1) := by decide +kernel
theorem dL_law_626 : decode cL_law 626 = .ok (.invokevirtual 75, 3) := by decide +kernel
theorem dL_law_629 : decode cL_law 629 = .ok (.if_icmp .eq 661, 3) := by decide +kernel
theorem dL_law_632 : decode cL_law 632 = .ok (.iconst 0, 1) := by decide +kernel
theorem dL_law_633 : decode cL_law 633 = .ok (.ireturn, 1) := by decide +kernel
theorem dL_law_634 : decode cL_law 634 = .ok (.aload_n 1, 1) := by decide +kernel
theorem dL_law_635 : decode cL_law 635 = .ok (.aload_n 0, 1) := by decide +kernel
theorem dL_law_636 : decode cL_law 636 = .ok (.iload_n 3, 1) := by decide +kernel
theorem dL_law_637 : decode cL_law 637 = .ok (.iconst 1, 1) := by decide +kernel
theorem dL_law_638 : decode cL_law 638 = .ok (.iadd, 1) := by decide +kernel
theorem dL_law_639 : decode cL_law 639 = .ok (.iaload, 1) := by decide +kernel
theorem dL_law_640 : decode cL_law 640 = .ok (.aload_n 0, 1) := by decide +kernel
theorem dL_law_641 : decode cL_law 641 = .ok (.iload_n 3, 1) := by decide +kernel
theorem dL_law_642 : decode cL_law 642 = .ok (.iconst 2, 1) := by decide +kernel
theorem dL_law_643 : decode cL_law 643 = .ok (.iadd, 1) := by decide +kernel
theorem dL_law_644 : decode cL_law 644 = .ok (.iaload, 1) := by decide +kernel
theorem dL_law_645 : decode cL_law 645 = .ok (.aload_n 0, 1) := by decide +kernel
theorem dL_law_646 : decode cL_law 646 = .ok (.iload_n 3, 1) := by decide +kernel
theorem dL_law_647 : decode cL_law 647 = .ok (.iconst 3, 1) := by decide +kernel
theorem dL_law_648 : decode cL_law 648 = .ok (.iadd, 1) := by decide +kernel
theorem dL_law_649 : decode cL_law 649 = .ok (.iaload, 1) := by decide +kernel
theorem dL_law_650 : decode cL_law 650 = .ok (.aload_n 0, 1) := by decide +kernel
theorem dL_law_651 : decode cL_law 651 = .ok (.iload_n 3, 1) := by decide +kernel
theorem dL_law_652 : decode cL_law 652 = .ok (.iconst 4, 1) := by decide +kernel
theorem dL_law_653 : decode cL_law 653 = .ok (.iadd, 1) := by decide +kernel
theorem dL_law_654 : decode cL_law 654 = .ok (.iaload, 1) := by decide +kernel
theorem dL_law_655 : decode cL_law 655 = .ok (.invokevirtual 76, 3) := by decide +kernel
theorem dL_law_658 : decode cL_law 658 = .ok (.aload_n 2, 1) := by decide +kernel
theorem dL_law_659 : decode cL_law 659 = .ok (.aload_n 0, 1) := by decide +kernel
theorem dL_law_660 : decode cL_law 660 = .ok (.iload_n 3, 1) := by decide +kernel
theorem dL_law_661 : decode cL_law 661 = .ok (.iconst 1, 1) := by decide +kernel
theorem dL_law_662 : decode cL_law 662 = .ok (.iadd, 1) := by decide +kernel
theorem dL_law_663 : decode cL_law 663 = .ok (.iaload, 1) := by decide +kernel
theorem dL_law_664 : decode cL_law 664 = .ok (.aload_n 0, 1) := by decide +kernel
theorem dL_law_665 : decode cL_law 665 = .ok (.iload_n 3, 1) := by decide +kernel
theorem dL_law_666 : decode cL_law 666 = .ok (.iconst 2, 1) := by decide +kernel
theorem dL_law_667 : decode cL_law 667 = .ok (.iadd, 1) := by decide +kernel
theorem dL_law_668 : decode cL_law 668 = .ok (.iaload, 1) := by decide +kernel
theorem dL_law_669 : decode cL_law 669 = .ok (.aload_n 0, 1) := by decide +kernel
theorem dL_law_670 : decode cL_law 670 = .ok (.iload_n 3, 1) := by decide +kernel
theorem dL_law_671 : decode cL_law 671 = .ok (.iconst 3, 1) := by decide +kernel
theorem dL_law_672 : decode cL_law 672 = .ok (.iadd, 1) := by decide +kernel
theorem dL_law_673 : decode cL_law 673 = .ok (.iaload, 1) := by decide +kernel
theorem dL_law_674 : decode cL_law 674 = .ok (.aload_n 0, 1) := by decide +kernel
theorem dL_law_675 : decode cL_law 675 = .ok (.iload_n 3, 1) := by decide +kernel
theorem dL_law_676 : decode cL_law 676 = .ok (.iconst 4, 1) := by decide +kernel
theorem dL_law_677 : decode cL_law 677 = .ok (.iadd, 1) := by decide +kernel
theorem dL_law_678 : decode cL_law 678 = .ok (.iaload, 1) := by decide +kernel
theorem dL_law_679 : decode cL_law 679 = .ok (.invokevirtual 80, 3) := by decide +kernel
theorem dL_law_682 : decode cL_law 682 = .ok (.if_icmp .eq 608, 3) := by decide +kernel
theorem dL_law_685 : decode cL_law 685 = .ok (.iconst 0, 1) := by decide +kernel
theorem dL_law_686 : decode cL_law 686 = .ok (.ireturn, 1) := by decide +kernel
theorem dL_law_687 : decode cL_law 687 = .ok (.aload_n 1, 1) := by decide +kernel
theorem dL_law_688 : decode cL_law 688 = .ok (.aload_n 0, 1) := by decide +kernel
theorem dL_law_689 : decode cL_law 689 = .ok (.iload_n 3, 1) := by decide +kernel
theorem dL_law_690 : decode cL_law 690 = .ok (.iconst 1, 1) := by decide +kernel
theorem dL_law_691 : decode cL_law 691 = .ok (.iadd, 1) := by decide +kernel
theorem dL_law_692 : decode cL_law 692 = .ok (.iaload, 1) := by decide +kernel
theorem dL_law_693 : decode cL_law 693 = .ok (.aload_n 0, 1) := by decide +kernel
theorem dL_law_694 : decode cL_law 694 = .ok (.iload_n 3, 1) := by decide +kernel
theorem dL_law_695 : decode cL_law 695 = .ok (.iconst 2, 1) := by decide +kernel
theorem dL_law_696 : decode cL_law 696 = .ok (.iadd, 1) := by decide +kernel
theorem dL_law_697 : decode cL_law 697 = .ok (.iaload, 1) := by decide +kernel
theorem dL_law_698 : decode cL_law 698 = .ok (.aload_n 0, 1) := by decide +kernel
theorem dL_law_699 : decode cL_law 699 = .ok (.iload_n 3, 1) := by decide +kernel
theorem dL_law_700 : decode cL_law 700 = .ok (.iconst 3, 1) := by decide +kernel
theorem dL_law_701 : decode cL_law 701 = .ok (.iadd, 1) := by decide +kernel
theorem dL_law_702 : decode cL_law 702 = .ok (.iaload, 1) := by decide +kernel
theorem dL_law_703 : decode cL_law 703 = .ok (.invokevirtual 81, 3) := by decide +kernel
theorem dL_law_706 : decode cL_law 706 = .ok (.aload_n 2, 1) := by decide +kernel
theorem dL_law_707 : decode cL_law 707 = .ok (.aload_n 0, 1) := by decide +kernel
theorem dL_law_708 : decode cL_law 708 = .ok (.iload_n 3, 1) := by decide +kernel
theorem dL_law_709 : decode cL_law 709 = .ok (.iconst 1, 1) := by decide +kernel
theorem dL_law_710 : decode cL_law 710 = .ok (.iadd, 1) := by decide +kernel
theorem dL_law_711 : decode cL_law 711 = .ok (.iaload, 1) := by decide +kernel
theorem dL_law_712 : decode cL_law 712 = .ok (.aload_n 0, 1) := by decide +kernel
theorem dL_law_713 : decode cL_law 713 = .ok (.iload_n 3, 1) := by decide +kernel
theorem dL_law_714 : decode cL_law 714 = .ok (.iconst 2, 1) := by decide +kernel
theorem dL_law_715 : decode cL_law 715 = .ok (.iadd, 1) := by decide +kernel
theorem dL_law_716 : decode cL_law 716 = .ok (.iaload, 1) := by decide +kernel
theorem dL_law_717 : decode cL_law 717 = .ok (.aload_n 0, 1) := by decide +kernel
theorem dL_law_718 : decode cL_law 718 = .ok (.iload_n 3, 1) := by decide +kernel
theorem dL_law_719 : decode cL_law 719 = .ok (.iconst 3, 1) := by decide +kernel
theorem dL_law_720 : decode cL_law 720 = .ok (.iadd, 1) := by decide +kernel
theorem dL_law_721 : decode cL_law 721 = .ok (.iaload, 1) := by decide +kernel
theorem dL_law_722 : decode cL_law 722 = .ok (.invokevirtual 84, 3) := by decide +kernel
theorem dL_law_725 : decode cL_law 725 = .ok (.if_icmp .eq 565, 3) := by decide +kernel
theorem dL_law_728 : decode cL_law 728 = .ok (.iconst 0, 1) := by decide +kernel
theorem dL_law_729 : decode cL_law 729 = .ok (.ireturn, 1) := by decide +kernel
theorem dL_law_730 : decode cL_law 730 = .ok (.aload_n 1, 1) := by decide +kernel
theorem dL_law_731 : decode cL_law 731 = .ok (.aload_n 0, 1) := by decide +kernel
theorem dL_law_732 : decode cL_law 732 = .ok (.iload_n 3, 1) := by decide +kernel
theorem dL_law_733 : decode cL_law 733 = .ok (.iconst 1, 1) := by decide +kernel
theorem dL_law_734 : decode cL_law 734 = .ok (.iadd, 1) := by decide +kernel
theorem dL_law_735 : decode cL_law 735 = .ok (.iaload, 1) := by decide +kernel
theorem dL_law_736 : decode cL_law 736 = .ok (.invokevirtual 85, 3) := by decide +kernel
theorem dL_law_739 : decode cL_law 739 = .ok (.aload_n 2, 1) := by decide +kernel
theorem dL_law_740 : decode cL_law 740 = .ok (.aload_n 0, 1) := by decide +kernel
theorem dL_law_741 : decode cL_law 741 = .ok (.iload_n 3, 1) := by decide +kernel
theorem dL_law_742 : decode cL_law 742 = .ok (.iconst 1, 1) := by decide +kernel
theorem dL_law_743 : decode cL_law 743 = .ok (.iadd, 1) := by decide +kernel
theorem dL_law_744 : decode cL_law 744 = .ok (.iaload, 1) := by decide +kernel
theorem dL_law_745 : decode cL_law 745 = .ok (.invokevirtual 88, 3) := by decide +kernel
theorem dL_law_748 : decode cL_law 748 = .ok (.if_icmp .eq 542, 3) := by decide +kernel
theorem dL_law_751 : decode cL_law 751 = .ok (.iconst 0, 1) := by decide +kernel
theorem dL_law_752 : decode cL_law 752 = .ok (.ireturn, 1) := by decide +kernel
theorem dL_law_753 : decode cL_law 753 = .ok (.aload_n 1, 1) := by decide +kernel
theorem dL_law_754 : decode cL_law 754 = .ok (.aload_n 0, 1) := by decide +kernel
theorem dL_law_755 : decode cL_law 755 = .ok (.iload_n 3, 1) := by decide +kernel
theorem dL_law_756 : decode cL_law 756 = .ok (.iconst 1, 1) := by decide +kernel
theorem dL_law_757 : decode cL_law 757 = .ok (.iadd, 1) := by decide +kernel
theorem dL_law_758 : decode cL_law 758 = .ok (.iaload, 1) := by decide +kernel
theorem dL_law_759 : decode cL_law 759 = .ok (.aload_n 0, 1) := by decide +kernel
theorem dL_law_760 : decode cL_law 760 = .ok (.iload_n 3, 1) := by decide +kernel
theorem dL_law_761 : decode cL_law 761 = .ok (.iconst 2, 1) := by decide +kernel
theorem dL_law_762 : decode cL_law 762 = .ok (.iadd, 1) := by decide +kernel
theorem dL_law_763 : decode cL_law 763 = .ok (.iaload, 1) := by decide +kernel
theorem dL_law_764 : decode cL_law 764 = .ok (.invokevirtual 89, 3) := by decide +kernel
theorem dL_law_767 : decode cL_law 767 = .ok (.aload_n 2, 1) := by decide +kernel
theorem dL_law_768 : decode cL_law 768 = .ok (.aload_n 0, 1) := by decide +kernel
theorem dL_law_769 : decode cL_law 769 = .ok (.iload_n 3, 1) := by decide +kernel
theorem dL_law_770 : decode cL_law 770 = .ok (.iconst 1, 1) := by decide +kernel
theorem dL_law_771 : decode cL_law 771 = .ok (.iadd, 1) := by decide +kernel
theorem dL_law_772 : decode cL_law 772 = .ok (.iaload, 1) := by decide +kernel
theorem dL_law_773 : decode cL_law 773 = .ok (.aload_n 0, 1) := by decide +kernel
theorem dL_law_774 : decode cL_law 774 = .ok (.iload_n 3, 1) := by decide +kernel
theorem dL_law_775 : decode cL_law 775 = .ok (.iconst 2, 1) := by decide +kernel
theorem dL_law_776 : decode cL_law 776 = .ok (.iadd, 1) := by decide +kernel
theorem dL_law_777 : decode cL_law 777 = .ok (.iaload, 1) := by decide +kernel
theorem dL_law_778 : decode cL_law 778 = .ok (.invokevirtual 92, 3) := by decide +kernel
theorem dL_law_781 : decode cL_law 781 = .ok (.if_icmp .eq 509, 3) := by decide +kernel
theorem dL_law_784 : decode cL_law 784 = .ok (.iconst 0, 1) := by decide +kernel
theorem dL_law_785 : decode cL_law 785 = .ok (.ireturn, 1) := by decide +kernel
theorem dL_law_786 : decode cL_law 786 = .ok (.aload_n 1, 1) := by decide +kernel
theorem dL_law_787 : decode cL_law 787 = .ok (.aload_n 0, 1) := by decide +kernel
theorem dL_law_788 : decode cL_law 788 = .ok (.iload_n 3, 1) := by decide +kernel
theorem dL_law_789 : decode cL_law 789 = .ok (.iconst 1, 1) := by decide +kernel
theorem dL_law_790 : decode cL_law 790 = .ok (.iadd, 1) := by decide +kernel
theorem dL_law_791 : decode cL_law 791 = .ok (.iaload, 1) := by decide +kernel
theorem dL_law_792 : decode cL_law 792 = .ok (.invokevirtual 93, 3) := by decide +kernel
theorem dL_law_795 : decode cL_law 795 = .ok (.aload_n 2, 1) := by decide +kernel
theorem dL_law_796 : decode cL_law 796 = .ok (.aload_n 0, 1) := by decide +kernel
theorem dL_law_797 : decode cL_law 797 = .ok (.iload_n 3, 1) := by decide +kernel
theorem dL_law_798 : decode cL_law 798 = .ok (.iconst 1, 1) := by decide +kernel
theorem dL_law_799 : decode cL_law 799 = .ok (.iadd, 1) := by decide +kernel
theorem dL_law_800 : decode cL_law 800 = .ok (.iaload, 1) := by decide +kernel
theorem dL_law_801 : decode cL_law 801 = .ok (.invokevirtual 96, 3) := by decide +kernel
theorem dL_law_804 : decode cL_law 804 = .ok (.if_icmp .eq 486, 3) := by decide +kernel
theorem dL_law_807 : decode cL_law 807 = .ok (.iconst 0, 1) := by decide +kernel
theorem dL_law_808 : decode cL_law 808 = .ok (.ireturn, 1) := by decide +kernel
theorem dL_law_809 : decode cL_law 809 = .ok (.aload_n 1, 1) := by decide +kernel
theorem dL_law_810 : decode cL_law 810 = .ok (.aload_n 0, 1) := by decide +kernel
theorem dL_law_811 : decode cL_law 811 = .ok (.iload_n 3, 1) := by decide +kernel
theorem dL_law_812 : decode cL_law 812 = .ok (.iconst 1, 1) := by decide +kernel
theorem dL_law_813 : decode cL_law 813 = .ok (.iadd, 1) := by decide +kernel
theorem dL_law_814 : decode cL_law 814 = .ok (.iaload, 1) := by decide +kernel
theorem dL_law_815 : decode cL_law 815 = .ok (.aload_n 0, 1) := by decide +kernel
theorem dL_law_816 : decode cL_law 816 = .ok (.iload_n 3, 1) := by decide +kernel
theorem dL_law_817 : decode cL_law 817 = .ok (.iconst 2, 1) := by decide +kernel
theorem dL_law_818 : decode cL_law 818 = .ok (.iadd, 1) := by decide +kernel
theorem dL_law_819 : decode cL_law 819 = .ok (.iaload, 1) := by decide +kernel
theorem dL_law_820 : decode cL_law 820 = .ok (.invokevirtual 97, 3) := by decide +kernel
theorem dL_law_823 : decode cL_law 823 = .ok (.aload_n 2, 1) := by decide +kernel
theorem dL_law_824 : decode cL_law 824 = .ok (.aload_n 0, 1) := by decide +kernel
theorem dL_law_825 : decode cL_law 825 = .ok (.iload_n 3, 1) := by decide +kernel
theorem dL_law_826 : decode cL_law 826 = .ok (.iconst 1, 1) := by decide +kernel
theorem dL_law_827 : decode cL_law 827 = .ok (.iadd, 1) := by decide +kernel
theorem dL_law_828 : decode cL_law 828 = .ok (.iaload, 1) := by decide +kernel
theorem dL_law_829 : decode cL_law 829 = .ok (.aload_n 0, 1) := by decide +kernel
theorem dL_law_830 : decode cL_law 830 = .ok (.iload_n 3, 1) := by decide +kernel
theorem dL_law_831 : decode cL_law 831 = .ok (.iconst 2, 1) := by decide +kernel
theorem dL_law_832 : decode cL_law 832 = .ok (.iadd, 1) := by decide +kernel
theorem dL_law_833 : decode cL_law 833 = .ok (.iaload, 1) := by decide +kernel
theorem dL_law_834 : decode cL_law 834 = .ok (.invokevirtual 100, 3) := by decide +kernel
theorem dL_law_837 : decode cL_law 837 = .ok (.if_icmp .eq 453, 3) := by decide +kernel
theorem dL_law_840 : decode cL_law 840 = .ok (.iconst 0, 1) := by decide +kernel
theorem dL_law_841 : decode cL_law 841 = .ok (.ireturn, 1) := by decide +kernel
theorem dL_law_842 : decode cL_law 842 = .ok (.aload_n 1, 1) := by decide +kernel
theorem dL_law_843 : decode cL_law 843 = .ok (.aload_n 0, 1) := by decide +kernel
theorem dL_law_844 : decode cL_law 844 = .ok (.iload_n 3, 1) := by decide +kernel
theorem dL_law_845 : decode cL_law 845 = .ok (.iconst 1, 1) := by decide +kernel
theorem dL_law_846 : decode cL_law 846 = .ok (.iadd, 1) := by decide +kernel
theorem dL_law_847 : decode cL_law 847 = .ok (.iaload, 1) := by decide +kernel
theorem dL_law_848 : decode cL_law 848 = .ok (.aload_n 0, 1) := by decide +kernel
theorem dL_law_849 : decode cL_law 849 = .ok (.iload_n 3, 1) := by decide +kernel
theorem dL_law_850 : decode cL_law 850 = .ok (.iconst 2, 1) := by decide +kernel
theorem dL_law_851 : decode cL_law 851 = .ok (.iadd, 1) := by decide +kernel
theorem dL_law_852 : decode cL_law 852 = .ok (.iaload, 1) := by decide +kernel
theorem dL_law_853 : decode cL_law 853 = .ok (.invokevirtual 101, 3) := by decide +kernel
theorem dL_law_856 : decode cL_law 856 = .ok (.aload_n 2, 1) := by decide +kernel
theorem dL_law_857 : decode cL_law 857 = .ok (.aload_n 0, 1) := by decide +kernel
theorem dL_law_858 : decode cL_law 858 = .ok (.iload_n 3, 1) := by decide +kernel
theorem dL_law_859 : decode cL_law 859 = .ok (.iconst 1, 1) := by decide +kernel
theorem dL_law_860 : decode cL_law 860 = .ok (.iadd, 1) := by decide +kernel
theorem dL_law_861 : decode cL_law 861 = .ok (.iaload, 1) := by decide +kernel
theorem dL_law_862 : decode cL_law 862 = .ok (.aload_n 0, 1) := by decide +kernel
theorem dL_law_863 : decode cL_law 863 = .ok (.iload_n 3, 1) := by decide +kernel
theorem dL_law_864 : decode cL_law 864 = .ok (.iconst 2, 1) := by decide +kernel
theorem dL_law_865 : decode cL_law 865 = .ok (.iadd, 1) := by decide +kernel
theorem dL_law_866 : decode cL_law 866 = .ok (.iaload, 1) := by decide +kernel
theorem dL_law_867 : decode cL_law 867 = .ok (.invokevirtual 104, 3) := by decide +kernel
theorem dL_law_870 : decode cL_law 870 = .ok (.if_icmp .eq 420, 3) := by decide +kernel
theorem dL_law_873 : decode cL_law 873 = .ok (.iconst 0, 1) := by decide +kernel
theorem dL_law_874 : decode cL_law 874 = .ok (.ireturn, 1) := by decide +kernel
theorem dL_law_875 : decode cL_law 875 = .ok (.aload_n 1, 1) := by decide +kernel
theorem dL_law_876 : decode cL_law 876 = .ok (.aload_n 0, 1) := by decide +kernel
theorem dL_law_877 : decode cL_law 877 = .ok (.iload_n 3, 1) := by decide +kernel
theorem dL_law_878 : decode cL_law 878 = .ok (.iconst 1, 1) := by decide +kernel
theorem dL_law_879 : decode cL_law 879 = .ok (.iadd, 1) := by decide +kernel
theorem dL_law_880 : decode cL_law 880 = .ok (.iaload, 1) := by decide +kernel
theorem dL_law_881 : decode cL_law 881 = .ok (.invokevirtual 105, 3) := by decide +kernel
theorem dL_law_884 : decode cL_law 884 = .ok (.aload_n 2, 1) := by decide +kernel
theorem dL_law_885 : decode cL_law 885 = .ok (.aload_n 0, 1) := by decide +kernel
theorem dL_law_886 : decode cL_law 886 = .ok (.iload_n 3, 1) := by decide +kernel
theorem dL_law_887 : decode cL_law 887 = .ok (.iconst 1, 1) := by decide +kernel
theorem dL_law_888 : decode cL_law 888 = .ok (.iadd, 1) := by decide +kernel
theorem dL_law_889 : decode cL_law 889 = .ok (.iaload, 1) := by decide +kernel
theorem dL_law_890 : decode cL_law 890 = .ok (.invokevirtual 108, 3) := by decide +kernel
theorem dL_law_893 : decode cL_law 893 = .ok (.if_icmp .eq 397, 3) := by decide +kernel
theorem dL_law_896 : decode cL_law 896 = .ok (.iconst 0, 1) := by decide +kernel
theorem dL_law_897 : decode cL_law 897 = .ok (.ireturn, 1) := by decide +kernel
theorem dL_law_898 : decode cL_law 898 = .ok (.aload_n 1, 1) := by decide +kernel
theorem dL_law_899 : decode cL_law 899 = .ok (.invokevirtual 109, 3) := by decide +kernel
theorem dL_law_902 : decode cL_law 902 = .ok (.aload_n 2, 1) := by decide +kernel
theorem dL_law_903 : decode cL_law 903 = .ok (.invokevirtual 112, 3) := by decide +kernel
theorem dL_law_906 : decode cL_law 906 = .ok (.if_icmp .eq 384, 3) := by decide +kernel
theorem dL_law_909 : decode cL_law 909 = .ok (.iconst 0, 1) := by decide +kernel
theorem dL_law_910 : decode cL_law 910 = .ok (.ireturn, 1) := by decide +kernel
theorem dL_law_911 : decode cL_law 911 = .ok (.aload_n 1, 1) := by decide +kernel
theorem dL_law_912 : decode cL_law 912 = .ok (.aload_n 0, 1) := by decide +kernel
theorem dL_law_913 : decode cL_law 913 = .ok (.iload_n 3, 1) := by decide +kernel
theorem dL_law_914 : decode cL_law 914 = .ok (.iconst 1, 1) := by decide +kernel
theorem dL_law_915 : decode cL_law 915 = .ok (.iadd, 1) := by decide +kernel
theorem dL_law_916 : decode cL_law 916 = .ok (.iaload, 1) := by decide +kernel
theorem dL_law_917 : decode cL_law 917 = .ok (.invokevirtual 113, 3) := by decide +kernel
theorem dL_law_920 : decode cL_law 920 = .ok (.aload_n 2, 1) := by decide +kernel
theorem dL_law_921 : decode cL_law 921 = .ok (.aload_n 0, 1) := by decide +kernel
theorem dL_law_922 : decode cL_law 922 = .ok (.iload_n 3, 1) := by decide +kernel
theorem dL_law_923 : decode cL_law 923 = .ok (.iconst 1, 1) := by decide +kernel
theorem dL_law_924 : decode cL_law 924 = .ok (.iadd, 1) := by decide +kernel
theorem dL_law_925 : decode cL_law 925 = .ok (.iaload, 1) := by decide +kernel
theorem dL_law_926 : decode cL_law 926 = .ok (.invokevirtual 116, 3) := by decide +kernel
theorem dL_law_929 : decode cL_law 929 = .ok (.if_icmp .eq 361, 3) := by decide +kernel
theorem dL_law_932 : decode cL_law 932 = .ok (.iconst 0, 1) := by decide +kernel
theorem dL_law_933 : decode cL_law 933 = .ok (.ireturn, 1) := by decide +kernel
theorem dL_law_934 : decode cL_law 934 = .ok (.aload_n 1, 1) := by decide +kernel
theorem dL_law_935 : decode cL_law 935 = .ok (.aload_n 0, 1) := by decide +kernel
theorem dL_law_936 : decode cL_law 936 = .ok (.iload_n 3, 1) := by decide +kernel
theorem dL_law_937 : decode cL_law 937 = .ok (.iconst 1, 1) := by decide +kernel
theorem dL_law_938 : decode cL_law 938 = .ok (.iadd, 1) := by decide +kernel
theorem dL_law_939 : decode cL_law 939 = .ok (.iaload, 1) := by decide +kernel
theorem dL_law_940 : decode cL_law 940 = .ok (.aload_n 0, 1) := by decide +kernel
theorem dL_law_941 : decode cL_law 941 = .ok (.iload_n 3, 1) := by decide +kernel
theorem dL_law_942 : decode cL_law 942 = .ok (.iconst 2, 1) := by decide +kernel
theorem dL_law_943 : decode cL_law 943 = .ok (.iadd, 1) := by decide +kernel
theorem dL_law_944 : decode cL_law 944 = .ok (.iaload, 1) := by decide +kernel
theorem dL_law_945 : decode cL_law 945 = .ok (.invokevirtual 117, 3) := by decide +kernel
theorem dL_law_948 : decode cL_law 948 = .ok (.aload_n 2, 1) := by decide +kernel
theorem dL_law_949 : decode cL_law 949 = .ok (.aload_n 0, 1) := by decide +kernel
theorem dL_law_950 : decode cL_law 950 = .ok (.iload_n 3, 1) := by decide +kernel
theorem dL_law_951 : decode cL_law 951 = .ok (.iconst 1, 1) := by decide +kernel
theorem dL_law_952 : decode cL_law 952 = .ok (.iadd, 1) := by decide +kernel
theorem dL_law_953 : decode cL_law 953 = .ok (.iaload, 1) := by decide +kernel
theorem dL_law_954 : decode cL_law 954 = .ok (.aload_n 0, 1) := by decide +kernel
theorem dL_law_955 : decode cL_law 955 = .ok (.iload_n 3, 1) := by decide +kernel
theorem dL_law_956 : decode cL_law 956 = .ok (.iconst 2, 1) := by decide +kernel
theorem dL_law_957 : decode cL_law 957 = .ok (.iadd, 1) := by decide +kernel
theorem dL_law_958 : decode cL_law 958 = .ok (.iaload, 1) := by decide +kernel
theorem dL_law_959 : decode cL_law 959 = .ok (.invokevirtual 120, 3) := by decide +kernel
theorem dL_law_962 : decode cL_law 962 = .ok (.if_icmp .eq 328, 3) := by decide +kernel
theorem dL_law_965 : decode cL_law 965 = .ok (.iconst 0, 1) := by decide +kernel
theorem dL_law_966 : decode cL_law 966 = .ok (.ireturn, 1) := by decide +kernel
theorem dL_law_967 : decode cL_law 967 = .ok (.aload_n 1, 1) := by decide +kernel
theorem dL_law_968 : decode cL_law 968 = .ok (.aload_n 0, 1) := by decide +kernel
theorem dL_law_969 : decode cL_law 969 = .ok (.iload_n 3, 1) := by decide +kernel
theorem dL_law_970 : decode cL_law 970 = .ok (.iconst 1, 1) := by decide +kernel
theorem dL_law_971 : decode cL_law 971 = .ok (.iadd, 1) := by decide +kernel
theorem dL_law_972 : decode cL_law 972 = .ok (.iaload, 1) := by decide +kernel
theorem dL_law_973 : decode cL_law 973 = .ok (.aload_n 0, 1) := by decide +kernel
theorem dL_law_974 : decode cL_law 974 = .ok (.iload_n 3, 1) := by decide +kernel
theorem dL_law_975 : decode cL_law 975 = .ok (.iconst 2, 1) := by decide +kernel
theorem dL_law_976 : decode cL_law 976 = .ok (.iadd, 1) := by decide +kernel
theorem dL_law_977 : decode cL_law 977 = .ok (.iaload, 1) := by decide +kernel
theorem dL_law_978 : decode cL_law 978 = .ok (.invokevirtual 121, 3) := by decide +kernel
theorem dL_law_981 : decode cL_law 981 = .ok (.aload_n 2, 1) := by decide +kernel
theorem dL_law_982 : decode cL_law 982 = .ok (.aload_n 0, 1) := by decide +kernel
theorem dL_law_983 : decode cL_law 983 = .ok (.iload_n 3, 1) := by decide +kernel
theorem dL_law_984 : decode cL_law 984 = .ok (.iconst 1, 1) := by decide +kernel
theorem dL_law_985 : decode cL_law 985 = .ok (.iadd, 1) := by decide +kernel
theorem dL_law_986 : decode cL_law 986 = .ok (.iaload, 1) := by decide +kernel
theorem dL_law_987 : decode cL_law 987 = .ok (.aload_n 0, 1) := by decide +kernel
theorem dL_law_988 : decode cL_law 988 = .ok (.iload_n 3, 1) := by decide +kernel
theorem dL_law_989 : decode cL_law 989 = .ok (.iconst 2, 1) := by decide +kernel
theorem dL_law_990 : decode cL_law 990 = .ok (.iadd, 1) := by decide +kernel
theorem dL_law_991 : decode cL_law 991 = .ok (.iaload, 1) := by decide +kernel
theorem dL_law_992 : decode cL_law 992 = .ok (.invokevirtual 124, 3) := by decide +kernel
theorem dL_law_995 : decode cL_law 995 = .ok (.if_icmp .eq 295, 3) := by decide +kernel
theorem dL_law_998 : decode cL_law 998 = .ok (.iconst 0, 1) := by decide +kernel
theorem dL_law_999 : decode cL_law 999 = .ok (.ireturn, 1) := by decide +kernel
theorem dL_law_1000 : decode cL_law 1000 = .ok (.aload_n 1, 1) := by decide +kernel
theorem dL_law_1001 : decode cL_law 1001 = .ok (.aload_n 0, 1) := by decide +kernel
theorem dL_law_1002 : decode cL_law 1002 = .ok (.iload_n 3, 1) := by decide +kernel
theorem dL_law_1003 : decode cL_law 1003 = .ok (.iconst 1, 1) := by decide +kernel
theorem dL_law_1004 : decode cL_law 1004 = .ok (.iadd, 1) := by decide +kernel
theorem dL_law_1005 : decode cL_law 1005 = .ok (.iaload, 1) := by decide +kernel
theorem dL_law_1006 : decode cL_law 1006 = .ok (.aload_n 0, 1) := by decide +kernel
theorem dL_law_1007 : decode cL_law 1007 = .ok (.iload_n 3, 1) := by decide +kernel
theorem dL_law_1008 : decode cL_law 1008 = .ok (.iconst 2, 1) := by decide +kernel
theorem dL_law_1009 : decode cL_law 1009 = .ok (.iadd, 1) := by decide +kernel
theorem dL_law_1010 : decode cL_law 1010 = .ok (.iaload, 1) := by decide +kernel
theorem dL_law_1011 : decode cL_law 1011 = .ok (.invokevirtual 125, 3) := by decide +kernel
theorem dL_law_1014 : decode cL_law 1014 = .ok (.aload_n 2, 1) := by decide +kernel
theorem dL_law_1015 : decode cL_law 1015 = .ok (.aload_n 0, 1) := by decide +kernel
theorem dL_law_1016 : decode cL_law 1016 = .ok (.iload_n 3, 1) := by decide +kernel
theorem dL_law_1017 : decode cL_law 1017 = .ok (.iconst 1, 1) := by decide +kernel
theorem dL_law_1018 : decode cL_law 1018 = .ok (.iadd, 1) := by decide +kernel
theorem dL_law_1019 : decode cL_law 1019 = .ok (.iaload, 1) := by decide +kernel
theorem dL_law_1020 : decode cL_law 1020 = .ok (.aload_n 0, 1) := by decide +kernel
theorem dL_law_1021 : decode cL_law 1021 = .ok (.iload_n 3, 1) := by decide +kernel
theorem dL_law_1022 : decode cL_law 1022 = .ok (.iconst 2, 1) := by decide +kernel
theorem dL_law_1023 : decode cL_law 1023 = .ok (.iadd, 1) := by decide +kernel
theorem dL_law_1024 : decode cL_law 1024 = .ok (.iaload, 1) := by decide +kernel
theorem dL_law_1025 : decode cL_law 1025 = .ok (.invokevirtual 128, 3) := by decide +kernel
theorem dL_law_1028 : decode cL_law 1028 = .ok (.if_icmp .eq 262, 3) := by decide +kernel
theorem dL_law_1031 : decode cL_law 1031 = .ok (.iconst 0, 1) := by decide +kernel
theorem dL_law_1032 : decode cL_law 1032 = .ok (.ireturn, 1) := by decide +kernel
theorem dL_law_1033 : decode cL_law 1033 = .ok (.aload_n 1, 1) := by decide +kernel
theorem dL_law_1034 : decode cL_law 1034 = .ok (.aload_n 0, 1) := by decide +kernel
theorem dL_law_1035 : decode cL_law 1035 = .ok (.iload_n 3, 1) := by decide +kernel
theorem dL_law_1036 : decode cL_law 1036 = .ok (.iconst 1, 1) := by decide +kernel
theorem dL_law_1037 : decode cL_law 1037 = .ok (.iadd, 1) := by decide +kernel
theorem dL_law_1038 : decode cL_law 1038 = .ok (.iaload, 1) := by decide +kernel
theorem dL_law_1039 : decode cL_law 1039 = .ok (.aload_n 0, 1) := by decide +kernel
theorem dL_law_1040 : decode cL_law 1040 = .ok (.iload_n 3, 1) := by decide +kernel
theorem dL_law_1041 : decode cL_law 1041 = .ok (.iconst 2, 1) := by decide +kernel
theorem dL_law_1042 : decode cL_law 1042 = .ok (.iadd, 1) := by decide +kernel
theorem dL_law_1043 : decode cL_law 1043 = .ok (.iaload, 1) := by decide +kernel
theorem dL_law_1044 : decode cL_law 1044 = .ok (.aload_n 0, 1) := by decide +kernel
theorem dL_law_1045 : decode cL_law 1045 = .ok (.iload_n 3, 1) := by decide +kernel
theorem dL_law_1046 : decode cL_law 1046 = .ok (.iconst 3, 1) := by decide +kernel
theorem dL_law_1047 : decode cL_law 1047 = .ok (.iadd, 1) := by decide +kernel
theorem dL_law_1048 : decode cL_law 1048 = .ok (.iaload, 1) := by decide +kernel
theorem dL_law_1049 : decode cL_law 1049 = .ok (.invokevirtual 129, 3) := by decide +kernel
theorem dL_law_1052 : decode cL_law 1052 = .ok (.aload_n 2, 1) := by decide +kernel
theorem dL_law_1053 : decode cL_law 1053 = .ok (.aload_n 0, 1) := by decide +kernel
theorem dL_law_1054 : decode cL_law 1054 = .ok (.iload_n 3, 1) := by decide +kernel
theorem dL_law_1055 : decode cL_law 1055 = .ok (.iconst 1, 1) := by decide +kernel
theorem dL_law_1056 : decode cL_law 1056 = .ok (.iadd, 1) := by decide +kernel
theorem dL_law_1057 : decode cL_law 1057 = .ok (.iaload, 1) := by decide +kernel
theorem dL_law_1058 : decode cL_law 1058 = .ok (.aload_n 0, 1) := by decide +kernel
theorem dL_law_1059 : decode cL_law 1059 = .ok (.iload_n 3, 1) := by decide +kernel
theorem dL_law_1060 : decode cL_law 1060 = .ok (.iconst 2, 1) := by decide +kernel
theorem dL_law_1061 : decode cL_law 1061 = .ok (.iadd, 1) := by decide +kernel
theorem dL_law_1062 : decode cL_law 1062 = .ok (.iaload, 1) := by decide +kernel
theorem dL_law_1063 : decode cL_law 1063 = .ok (.aload_n 0, 1) := by decide +kernel
theorem dL_law_1064 : decode cL_law 1064 = .ok (.iload_n 3, 1) := by decide +kernel
theorem dL_law_1065 : decode cL_law 1065 = .ok (.iconst 3, 1) := by decide +kernel
theorem dL_law_1066 : decode cL_law 1066 = .ok (.iadd, 1) := by decide +kernel
theorem dL_law_1067 : decode cL_law 1067 = .ok (.iaload, 1) := by decide +kernel
theorem dL_law_1068 : decode cL_law 1068 = .ok (.invokevirtual 132, 3) := by decide +kernel
theorem dL_law_1071 : decode cL_law 1071 = .ok (.if_icmp .eq 219, 3) := by decide +kernel
theorem dL_law_1074 : decode cL_law 1074 = .ok (.iconst 0, 1) := by decide +kernel
theorem dL_law_1075 : decode cL_law 1075 = .ok (.ireturn, 1) := by decide +kernel
theorem dL_law_1076 : decode cL_law 1076 = .ok (.aload_n 1, 1) := by decide +kernel
theorem dL_law_1077 : decode cL_law 1077 = .ok (.aload_n 0, 1) := by decide +kernel
theorem dL_law_1078 : decode cL_law 1078 = .ok (.iload_n 3, 1) := by decide +kernel
theorem dL_law_1079 : decode cL_law 1079 = .ok (.iconst 1, 1) := by decide +kernel
theorem dL_law_1080 : decode cL_law 1080 = .ok (.iadd, 1) := by decide +kernel
theorem dL_law_1081 : decode cL_law 1081 = .ok (.iaload, 1) := by decide +kernel
theorem dL_law_1082 : decode cL_law 1082 = .ok (.aload_n 0, 1) := by decide +kernel
theorem dL_law_1083 : decode cL_law 1083 = .ok (.iload_n 3, 1) := by decide +kernel
theorem dL_law_1084 : decode cL_law 1084 = .ok (.iconst 2, 1) := by decide +kernel
theorem dL_law_1085 : decode cL_law 1085 = .ok (.iadd, 1) := by decide +kernel
theorem dL_law_1086 : decode cL_law 1086 = .ok (.iaload, 1) := by decide +kernel
theorem dL_law_1087 : decode cL_law 1087 = .ok (.invokevirtual 133, 3) := by decide +kernel
theorem dL_law_1090 : decode cL_law 1090 = .ok (.aload_n 2, 1) := by decide +kernel
theorem dL_law_1091 : decode cL_law 1091 = .ok (.aload_n 0, 1) := by decide +kernel
theorem dL_law_1092 : decode cL_law 1092 = .ok (.iload_n 3, 1) := by decide +kernel
theorem dL_law_1093 : decode cL_law 1093 = .ok (.iconst 1, 1) := by decide +kernel
theorem dL_law_1094 : decode cL_law 1094 = .ok (.iadd, 1) := by decide +kernel
theorem dL_law_1095 : decode cL_law 1095 = .ok (.iaload, 1) := by decide +kernel
theorem dL_law_1096 : decode cL_law 1096 = .ok (.aload_n 0, 1) := by decide +kernel
theorem dL_law_1097 : decode cL_law 1097 = .ok (.iload_n 3, 1) := by decide +kernel
theorem dL_law_1098 : decode cL_law 1098 = .ok (.iconst 2, 1) := by decide +kernel
theorem dL_law_1099 : decode cL_law 1099 = .ok (.iadd, 1) := by decide +kernel
theorem dL_law_1100 : decode cL_law 1100 = .ok (.iaload, 1) := by decide +kernel
theorem dL_law_1101 : decode cL_law 1101 = .ok (.invokevirtual 136, 3) := by decide +kernel
theorem dL_law_1104 : decode cL_law 1104 = .ok (.if_icmp .eq 186, 3) := by decide +kernel
theorem dL_law_1107 : decode cL_law 1107 = .ok (.iconst 0, 1) := by decide +kernel
theorem dL_law_1108 : decode cL_law 1108 = .ok (.ireturn, 1) := by decide +kernel
theorem dL_law_1109 : decode cL_law 1109 = .ok (.aload_n 1, 1) := by decide +kernel
theorem dL_law_1110 : decode cL_law 1110 = .ok (.aload_n 0, 1) := by decide +kernel
theorem dL_law_1111 : decode cL_law 1111 = .ok (.iload_n 3, 1) := by decide +kernel
theorem dL_law_1112 : decode cL_law 1112 = .ok (.iconst 1, 1) := by decide +kernel
theorem dL_law_1113 : decode cL_law 1113 = .ok (.iadd, 1) := by decide +kernel
theorem dL_law_1114 : decode cL_law 1114 = .ok (.iaload, 1) := by decide +kernel
theorem dL_law_1115 : decode cL_law 1115 = .ok (.aload_n 0, 1) := by decide +kernel
theorem dL_law_1116 : decode cL_law 1116 = .ok (.iload_n 3, 1) := by decide +kernel
theorem dL_law_1117 : decode cL_law 1117 = .ok (.iconst 2, 1) := by decide +kernel
theorem dL_law_1118 : decode cL_law 1118 = .ok (.iadd, 1) := by decide +kernel
theorem dL_law_1119 : decode cL_law 1119 = .ok (.iaload, 1) := by decide +kernel
theorem dL_law_1120 : decode cL_law 1120 = .ok (.aload_n 0, 1) := by decide +kernel
theorem dL_law_1121 : decode cL_law 1121 = .ok (.iload_n 3, 1) := by decide +kernel
theorem dL_law_1122 : decode cL_law 1122 = .ok (.iconst 3, 1) := by decide +kernel
theorem dL_law_1123 : decode cL_law 1123 = .ok (.iadd, 1) := by decide +kernel
theorem dL_law_1124 : decode cL_law 1124 = .ok (.iaload, 1) := by decide +kernel
theorem dL_law_1125 : decode cL_law 1125 = .ok (.invokevirtual 137, 3) := by decide +kernel
theorem dL_law_1128 : decode cL_law 1128 = .ok (.aload_n 2, 1) := by decide +kernel
theorem dL_law_1129 : decode cL_law 1129 = .ok (.aload_n 0, 1) := by decide +kernel
theorem dL_law_1130 : decode cL_law 1130 = .ok (.iload_n 3, 1) := by decide +kernel
theorem dL_law_1131 : decode cL_law 1131 = .ok (.iconst 1, 1) := by decide +kernel
theorem dL_law_1132 : decode cL_law 1132 = .ok (.iadd, 1) := by decide +kernel
theorem dL_law_1133 : decode cL_law 1133 = .ok (.iaload, 1) := by decide +kernel
theorem dL_law_1134 : decode cL_law 1134 = .ok (.aload_n 0, 1) := by decide +kernel
theorem dL_law_1135 : decode cL_law 1135 = .ok (.iload_n 3, 1) := by decide +kernel
theorem dL_law_1136 : decode cL_law 1136 = .ok (.iconst 2, 1) := by decide +kernel
theorem dL_law_1137 : decode cL_law 1137 = .ok (.iadd, 1) := by decide +kernel
theorem dL_law_1138 : decode cL_law 1138 = .ok (.iaload, 1) := by decide +kernel
theorem dL_law_1139 : decode cL_law 1139 = .ok (.aload_n 0, 1) := by decide +kernel
theorem dL_law_1140 : decode cL_law 1140 = .ok (.iload_n 3, 1) := by decide +kernel
theorem dL_law_1141 : decode cL_law 1141 = .ok (.iconst 3, 1) := by decide +kernel
theorem dL_law_1142 : decode cL_law 1142 = .ok (.iadd, 1) := by decide +kernel
theorem dL_law_1143 : decode cL_law 1143 = .ok (.iaload, 1) := by decide +kernel
theorem dL_law_1144 : decode cL_law 1144 = .ok (.invokevirtual 140, 3) := by decide +kernel
theorem dL_law_1147 : decode cL_law 1147 = .ok (.if_icmp .eq 143, 3) := by decide +kernel
theorem dL_law_1150 : decode cL_law 1150 = .ok (.iconst 0, 1) := by decide +kernel
theorem dL_law_1151 : decode cL_law 1151 = .ok (.ireturn, 1) := by decide +kernel
theorem dL_law_1152 : decode cL_law 1152 = .ok (.aload_n 1, 1) := by decide +kernel
theorem dL_law_1153 : decode cL_law 1153 = .ok (.aload_n 0, 1) := by decide +kernel
theorem dL_law_1154 : decode cL_law 1154 = .ok (.iload_n 3, 1) := by decide +kernel
theorem dL_law_1155 : decode cL_law 1155 = .ok (.iconst 1, 1) := by decide +kernel
theorem dL_law_1156 : decode cL_law 1156 = .ok (.iadd, 1) := by decide +kernel
theorem dL_law_1157 : decode cL_law 1157 = .ok (.iaload, 1) := by decide +kernel
theorem dL_law_1158 : decode cL_law 1158 = .ok (.aload_n 0, 1) := by decide +kernel
theorem dL_law_1159 : decode cL_law 1159 = .ok (.iload_n 3, 1) := by decide +kernel
theorem dL_law_1160 : decode cL_law 1160 = .ok (.iconst 2, 1) := by decide +kernel
theorem dL_law_1161 : decode cL_law 1161 = .ok (.iadd, 1) := by decide +kernel
theorem dL_law_1162 : decode cL_law 1162 = .ok (.iaload, 1) := by decide +kernel
theorem dL_law_1163 : decode cL_law 1163 = .ok (.invokevirtual 141, 3) := by decide +kernel
theorem dL_law_1166 : decode cL_law 1166 = .ok (.aload_n 2, 1) := by decide +kernel
theorem dL_law_1167 : decode cL_law 1167 = .ok (.aload_n 0, 1) := by decide +kernel
theorem dL_law_1168 : decode cL_law 1168 = .ok (.iload_n 3, 1) := by decide +kernel
theorem dL_law_1169 : decode cL_law 1169 = .ok (.iconst 1, 1) := by decide +kernel
theorem dL_law_1170 : decode cL_law 1170 = .ok (.iadd, 1) := by decide +kernel
theorem dL_law_1171 : decode cL_law 1171 = .ok (.iaload, 1) := by decide +kernel
theorem dL_law_1172 : decode cL_law 1172 = .ok (.aload_n 0, 1) := by decide +kernel
theorem dL_law_1173 : decode cL_law 1173 = .ok (.iload_n 3, 1) := by decide +kernel
theorem dL_law_1174 : decode cL_law 1174 = .ok (.iconst 2, 1) := by decide +kernel
theorem dL_law_1175 : decode cL_law 1175 = .ok (.iadd, 1) := by decide +kernel
theorem dL_law_1176 : decode cL_law 1176 = .ok (.iaload, 1) := by decide +kernel
theorem dL_law_1177 : decode cL_law 1177 = .ok (.invokevirtual 144, 3) := by decide +kernel
theorem dL_law_1180 : decode cL_law 1180 = .ok (.if_icmp .eq 110, 3) := by decide +kernel
theorem dL_law_1183 : decode cL_law 1183 = .ok (.iconst 0, 1) := by decide +kernel
theorem dL_law_1184 : decode cL_law 1184 = .ok (.ireturn, 1) := by decide +kernel
theorem dL_law_1185 : decode cL_law 1185 = .ok (.aload_n 1, 1) := by decide +kernel
theorem dL_law_1186 : decode cL_law 1186 = .ok (.aload_n 0, 1) := by decide +kernel
theorem dL_law_1187 : decode cL_law 1187 = .ok (.iload_n 3, 1) := by decide +kernel
theorem dL_law_1188 : decode cL_law 1188 = .ok (.iconst 1, 1) := by decide +kernel
theorem dL_law_1189 : decode cL_law 1189 = .ok (.iadd, 1) := by decide +kernel
theorem dL_law_1190 : decode cL_law 1190 = .ok (.iaload, 1) := by decide +kernel
theorem dL_law_1191 : decode cL_law 1191 = .ok (.aload_n 0, 1) := by decide +kernel
theorem dL_law_1192 : decode cL_law 1192 = .ok (.iload_n 3, 1) := by decide +kernel
theorem dL_law_1193 : decode cL_law 1193 = .ok (.iconst 2, 1) := by decide +kernel
theorem dL_law_1194 : decode cL_law 1194 = .ok (.iadd, 1) := by decide +kernel
theorem dL_law_1195 : decode cL_law 1195 = .ok (.iaload, 1) := by decide +kernel
theorem dL_law_1196 : decode cL_law 1196 = .ok (.invokevirtual 145, 3) := by decide +kernel
theorem dL_law_1199 : decode cL_law 1199 = .ok (.aload_n 2, 1) := by decide +kernel
theorem dL_law_1200 : decode cL_law 1200 = .ok (.aload_n 0, 1) := by decide +kernel
theorem dL_law_1201 : decode cL_law 1201 = .ok (.iload_n 3, 1) := by decide +kernel
theorem dL_law_1202 : decode cL_law 1202 = .ok (.iconst 1, 1) := by decide +kernel
theorem dL_law_1203 : decode cL_law 1203 = .ok (.iadd, 1) := by decide +kernel
theorem dL_law_1204 : decode cL_law 1204 = .ok (.iaload, 1) := by decide +kernel
theorem dL_law_1205 : decode cL_law 1205 = .ok (.aload_n 0, 1) := by decide +kernel
theorem dL_law_1206 : decode cL_law 1206 = .ok (.iload_n 3, 1) := by decide +kernel
theorem dL_law_1207 : decode cL_law 1207 = .ok (.iconst 2, 1) := by decide +kernel
theorem dL_law_1208 : decode cL_law 1208 = .ok (.iadd, 1) := by decide +kernel
theorem dL_law_1209 : decode cL_law 1209 = .ok (.iaload, 1) := by decide +kernel
theorem dL_law_1210 : decode cL_law 1210 = .ok (.invokevirtual 148, 3) := by decide +kernel
theorem dL_law_1213 : decode cL_law 1213 = .ok (.if_icmp .eq 77, 3) := by decide +kernel
theorem dL_law_1216 : decode cL_law 1216 = .ok (.iconst 0, 1) := by decide +kernel
theorem dL_law_1217 : decode cL_law 1217 = .ok (.ireturn, 1) := by decide +kernel
theorem dL_law_1218 : decode cL_law 1218 = .ok (.aload_n 1, 1) := by decide +kernel
theorem dL_law_1219 : decode cL_law 1219 = .ok (.invokevirtual 149, 3) := by decide +kernel
theorem dL_law_1222 : decode cL_law 1222 = .ok (.aload_n 2, 1) := by decide +kernel
theorem dL_law_1223 : decode cL_law 1223 = .ok (.invokevirtual 152, 3) := by decide +kernel
theorem dL_law_1226 : decode cL_law 1226 = .ok (.if_icmp .eq 64, 3) := by decide +kernel
theorem dL_law_1229 : decode cL_law 1229 = .ok (.iconst 0, 1) := by decide +kernel
theorem dL_law_1230 : decode cL_law 1230 = .ok (.ireturn, 1) := by decide +kernel
theorem dL_law_1231 : decode cL_law 1231 = .ok (.aload_n 1, 1) := by decide +kernel
theorem dL_law_1232 : decode cL_law 1232 = .ok (.aload_n 0, 1) := by decide +kernel
theorem dL_law_1233 : decode cL_law 1233 = .ok (.iload_n 3, 1) := by decide +kernel
theorem dL_law_1234 : decode cL_law 1234 = .ok (.iconst 1, 1) := by decide +kernel
theorem dL_law_1235 : decode cL_law 1235 = .ok (.iadd, 1) := by decide +kernel
theorem dL_law_1236 : decode cL_law 1236 = .ok (.iaload, 1) := by decide +kernel
theorem dL_law_1237 : decode cL_law 1237 = .ok (.invokevirtual 153, 3) := by decide +kernel
theorem dL_law_1240 : decode cL_law 1240 = .ok (.aload_n 2, 1) := by decide +kernel
theorem dL_law_1241 : decode cL_law 1241 = .ok (.aload_n 0, 1) := by decide +kernel
theorem dL_law_1242 : decode cL_law 1242 = .ok (.iload_n 3, 1) := by decide +kernel
theorem dL_law_1243 : decode cL_law 1243 = .ok (.iconst 1, 1) := by decide +kernel
theorem dL_law_1244 : decode cL_law 1244 = .ok (.iadd, 1) := by decide +kernel
theorem dL_law_1245 : decode cL_law 1245 = .ok (.iaload, 1) := by decide +kernel
theorem dL_law_1246 : decode cL_law 1246 = .ok (.invokevirtual 156, 3) := by decide +kernel
theorem dL_law_1249 : decode cL_law 1249 = .ok (.if_icmp .eq 41, 3) := by decide +kernel
theorem dL_law_1252 : decode cL_law 1252 = .ok (.iconst 0, 1) := by decide +kernel
theorem dL_law_1253 : decode cL_law 1253 = .ok (.ireturn, 1) := by decide +kernel
theorem dL_law_1254 : decode cL_law 1254 = .ok (.aload_n 1, 1) := by decide +kernel
theorem dL_law_1255 : decode cL_law 1255 = .ok (.invokevirtual 157, 3) := by decide +kernel
theorem dL_law_1258 : decode cL_law 1258 = .ok (.aload_n 2, 1) := by decide +kernel
theorem dL_law_1259 : decode cL_law 1259 = .ok (.invokevirtual 161, 3) := by decide +kernel
theorem dL_law_1262 : decode cL_law 1262 = .ok (.if_icmp .eq 28, 3) := by decide +kernel
theorem dL_law_1265 : decode cL_law 1265 = .ok (.iconst 0, 1) := by decide +kernel
theorem dL_law_1266 : decode cL_law 1266 = .ok (.ireturn, 1) := by decide +kernel
theorem dL_law_1267 : decode cL_law 1267 = .ok (.aload_n 1, 1) := by decide +kernel
theorem dL_law_1268 : decode cL_law 1268 = .ok (.aload_n 0, 1) := by decide +kernel
theorem dL_law_1269 : decode cL_law 1269 = .ok (.iload_n 3, 1) := by decide +kernel
theorem dL_law_1270 : decode cL_law 1270 = .ok (.iconst 1, 1) := by decide +kernel
theorem dL_law_1271 : decode cL_law 1271 = .ok (.iadd, 1) := by decide +kernel
theorem dL_law_1272 : decode cL_law 1272 = .ok (.iaload, 1) := by decide +kernel
theorem dL_law_1273 : decode cL_law 1273 = .ok (.invokevirtual 162, 3) := by decide +kernel
theorem dL_law_1276 : decode cL_law 1276 = .ok (.aload_n 2, 1) := by decide +kernel
theorem dL_law_1277 : decode cL_law 1277 = .ok (.aload_n 0, 1) := by decide +kernel
theorem dL_law_1278 : decode cL_law 1278 = .ok (.iload_n 3, 1) := by decide +kernel
theorem dL_law_1279 : decode cL_law 1279 = .ok (.iconst 1, 1) := by decide +kernel
theorem dL_law_1280 : decode cL_law 1280 = .ok (.iadd, 1) := by decide +kernel
theorem dL_law_1281 : decode cL_law 1281 = .ok (.iaload, 1) := by decide +kernel
theorem dL_law_1282 : decode cL_law 1282 = .ok (.invokevirtual 165, 3) := by decide +kernel
theorem dL_law_1285 : decode cL_law 1285 = .ok (.if_icmp .eq 5, 3) := by decide +kernel
theorem dL_law_1288 : decode cL_law 1288 = .ok (.iconst 0, 1) := by decide +kernel
theorem dL_law_1289 : decode cL_law 1289 = .ok (.ireturn, 1) := by decide +kernel
theorem dL_law_1290 : decode cL_law 1290 = .ok (.iinc 3 6, 3) := by decide +kernel
theorem dL_law_1293 : decode cL_law 1293 = .ok (.goto (-1275), 3) := by decide +kernel
theorem dL_law_1296 : decode cL_law 1296 = .ok (.iconst 1, 1) := by decide +kernel
theorem dL_law_1297 : decode cL_law 1297 = .ok (.ireturn, 1) := by decide +kernel
theorem dX0_init_0 : decode cX0_init 0 = .ok (.aload_n 0, 1) := by decide +kernel
theorem dX0_init_1 : decode cX0_init 1 = .ok (.invokespecial 1, 3) := by decide +kernel
theorem dX0_init_4 : decode cX0_init 4 = .ok (.aload_n 0, 1) := by decide +kernel
theorem dX0_init_5 : decode cX0_init 5 = .ok (.bipush 64, 2) := by decide +kernel
theorem dX0_init_7 : decode cX0_init 7 = .ok (.newarray .int, 2) := by decide +kernel
theorem dX0_init_9 : decode cX0_init 9 = .ok (.putfield 9, 3) := by decide +kernel
theorem dX0_init_12 : decode cX0_init 12 = .ok (.aload_n 0, 1) := by decide +kernel
theorem dX0_init_13 : decode cX0_init 13 = .ok (.iconst 5, 1) := by decide +kernel
theorem dX0_init_14 : decode cX0_init 14 = .ok (.newarray .int, 2) := by decide +kernel
theorem dX0_init_16 : decode cX0_init 16 = .ok (.putfield 13, 3) := by decide +kernel
theorem dX0_init_19 : decode cX0_init 19 = .ok (.aload_n 0, 1) := by decide +kernel
theorem dX0_init_20 : decode cX0_init 20 = .ok (.iconst 0, 1) := by decide +kernel
theorem dX0_init_21 : decode cX0_init 21 = .ok (.putfield 16, 3) := by decide +kernel
theorem dX0_init_24 : decode cX0_init 24 = .ok (.return_, 1) := by decide +kernel
theorem dX1_init_0 : decode cX1_init 0 = .ok (.aload_n 0, 1) := by decide +kernel
theorem dX1_init_1 : decode cX1_init 1 = .ok (.invokespecial 3, 3) := by decide +kernel
theorem dX1_init_4 : decode cX1_init 4 = .ok (.aload_n 0, 1) := by decide +kernel
theorem dX1_init_5 : decode cX1_init 5 = .ok (.aload_n 1, 1) := by decide +kernel
theorem dX1_init_6 : decode cX1_init 6 = .ok (.putfield 9, 3) := by decide +kernel
theorem dX1_init_9 : decode cX1_init 9 = .ok (.aload_n 0, 1) := by decide +kernel
theorem dX1_init_10 : decode cX1_init 10 = .ok (.aload_n 2, 1) := by decide +kernel
theorem dX1_init_11 : decode cX1_init 11 = .ok (.putfield 15, 3) := by decide +kernel
theorem dX1_init_14 : decode cX1_init 14 = .ok (.aload_n 0, 1) := by decide +kernel
theorem dX1_init_15 : decode cX1_init 15 = .ok (.new 19, 3) := by decide +kernel
theorem dX1_init_18 : decode cX1_init 18 = .ok (.dup, 1) := by decide +kernel
theorem dX1_init_19 : decode cX1_init 19 = .ok (.bipush 60, 2) := by decide +kernel
theorem dX1_init_21 : decode cX1_init 21 = .ok (.iconst 5, 1) := by decide +kernel
theorem dX1_init_22 : decode cX1_init 22 = .ok (.invokespecial 21, 3) := by decide +kernel
theorem dX1_init_25 : decode cX1_init 25 = .ok (.putfield 24, 3) := by decide +kernel
theorem dX1_init_28 : decode cX1_init 28 = .ok (.aload_n 0, 1) := by decide +kernel
theorem dX1_init_29 : decode cX1_init 29 = .ok (.new 28, 3) := by decide +kernel
theorem dX1_init_32 : decode cX1_init 32 = .ok (.dup, 1) := by decide +kernel
theorem dX1_init_33 : decode cX1_init 33 = .ok (.bipush 20, 2) := by decide +kernel
theorem dX1_init_35 : decode cX1_init 35 = .ok (.iconst 3, 1) := by decide +kernel
theorem dX1_init_36 : decode cX1_init 36 = .ok (.invokespecial 30, 3) := by decide +kernel
theorem dX1_init_39 : decode cX1_init 39 = .ok (.putfield 31, 3) := by decide +kernel
theorem dX1_init_42 : decode cX1_init 42 = .ok (.aload_n 0, 1) := by decide +kernel
theorem dX1_init_43 : decode cX1_init 43 = .ok (.lconst 1, 1) := by decide +kernel
theorem dX1_init_44 : decode cX1_init 44 = .ok (.putfield 35, 3) := by decide +kernel
theorem dX1_init_47 : decode cX1_init 47 = .ok (.return_, 1) := by decide +kernel
theorem dX2_init_0 : decode cX2_init 0 = .ok (.aload_n 0, 1) := by decide +kernel
theorem dX2_init_1 : decode cX2_init 1 = .ok (.invokespecial 3, 3) := by decide +kernel
theorem dX2_init_4 : decode cX2_init 4 = .ok (.aload_n 0, 1) := by decide +kernel
theorem dX2_init_5 : decode cX2_init 5 = .ok (.aload_n 1, 1) := by decide +kernel
theorem dX2_init_6 : decode cX2_init 6 = .ok (.putfield 9, 3) := by decide +kernel
theorem dX2_init_9 : decode cX2_init 9 = .ok (.aload_n 0, 1) := by decide +kernel
theorem dX2_init_10 : decode cX2_init 10 = .ok (.iconst 0, 1) := by decide +kernel
theorem dX2_init_11 : decode cX2_init 11 = .ok (.putfield 15, 3) := by decide +kernel
theorem dX2_init_14 : decode cX2_init 14 = .ok (.aload_n 0, 1) := by decide +kernel
theorem dX2_init_15 : decode cX2_init 15 = .ok (.iconst 0, 1) := by decide +kernel
theorem dX2_init_16 : decode cX2_init 16 = .ok (.putfield 19, 3) := by decide +kernel
theorem dX2_init_19 : decode cX2_init 19 = .ok (.aload_n 0, 1) := by decide +kernel
theorem dX2_init_20 : decode cX2_init 20 = .ok (.iconst 0, 1) := by decide +kernel
theorem dX2_init_21 : decode cX2_init 21 = .ok (.putfield 22, 3) := by decide +kernel
theorem dX2_init_24 : decode cX2_init 24 = .ok (.aload_n 0, 1) := by decide +kernel
theorem dX2_init_25 : decode cX2_init 25 = .ok (.bipush 8, 2) := by decide +kernel
theorem dX2_init_27 : decode cX2_init 27 = .ok (.newarray .int, 2) := by decide +kernel
theorem dX2_init_29 : decode cX2_init 29 = .ok (.putfield 25, 3) := by decide +kernel
theorem dX2_init_32 : decode cX2_init 32 = .ok (.aload_n 0, 1) := by decide +kernel
theorem dX2_init_33 : decode cX2_init 33 = .ok (.sipush 234, 3) := by decide +kernel
theorem dX2_init_36 : decode cX2_init 36 = .ok (.newarray .int, 2) := by decide +kernel
theorem dX2_init_38 : decode cX2_init 38 = .ok (.putfield 29, 3) := by decide +kernel
theorem dX2_init_41 : decode cX2_init 41 = .ok (.aload_n 0, 1) := by decide +kernel
theorem dX2_init_42 : decode cX2_init 42 = .ok (.bipush 30, 2) := by decide +kernel
theorem dX2_init_44 : decode cX2_init 44 = .ok (.newarray .int, 2) := by decide +kernel
theorem dX2_init_46 : decode cX2_init 46 = .ok (.putfield 32, 3) := by decide +kernel
theorem dX2_init_49 : decode cX2_init 49 = .ok (.aload_n 0, 1) := by decide +kernel
theorem dX2_init_50 : decode cX2_init 50 = .ok (.bipush 96, 2) := by decide +kernel
theorem dX2_init_52 : decode cX2_init 52 = .ok (.newarray .int, 2) := by decide +kernel
theorem dX2_init_54 : decode cX2_init 54 = .ok (.putfield 35, 3) := by decide +kernel
theorem dX2_init_57 : decode cX2_init 57 = .ok (.aload_n 0, 1) := by decide +kernel
theorem dX2_init_58 : decode cX2_init 58 = .ok (.bipush 26, 2) := by decide +kernel
theorem dX2_init_60 : decode cX2_init 60 = .ok (.newarray .int, 2) := by decide +kernel
theorem dX2_init_62 : decode cX2_init 62 = .ok (.putfield 38, 3) := by decide +kernel
theorem dX2_init_65 : decode cX2_init 65 = .ok (.aload_n 0, 1) := by decide +kernel
theorem dX2_init_66 : decode cX2_init 66 = .ok (.bipush 26, 2) := by decide +kernel
theorem dX2_init_68 : decode cX2_init 68 = .ok (.newarray .int, 2) := by decide +kernel
theorem dX2_init_70 : decode cX2_init 70 = .ok (.putfield 41, 3) := by decide +kernel
theorem dX2_init_73 : decode cX2_init 73 = .ok (.aload_n 0, 1) := by decide +kernel
theorem dX2_init_74 : decode cX2_init 74 = .ok (.new 44, 3) := by decide +kernel
theorem dX2_init_77 : decode cX2_init 77 = .ok (.dup, 1) := by decide +kernel
theorem dX2_init_78 : decode cX2_init 78 = .ok (.bipush 80, 2) := by decide +kernel
theorem dX2_init_80 : decode cX2_init 80 = .ok (.iconst 4, 1) := by decide +kernel
theorem dX2_init_81 : decode cX2_init 81 = .ok (.invokespecial 46, 3) := by decide +kernel
theorem dX2_init_84 : decode cX2_init 84 = .ok (.putfield 49, 3) := by decide +kernel
theorem dX2_init_87 : decode cX2_init 87 = .ok (.aload_n 0, 1) := by decide +kernel
theorem dX2_init_88 : decode cX2_init 88 = .ok (.new 53, 3) := by decide +kernel
theorem dX2_init_91 : decode cX2_init 91 = .ok (.dup, 1) := by decide +kernel
theorem dX2_init_92 : decode cX2_init 92 = .ok (.invokespecial 55, 3) := by decide +kernel
theorem dX2_init_95 : decode cX2_init 95 = .ok (.putfield 56, 3) := by decide +kernel
theorem dX2_init_98 : decode cX2_init 98 = .ok (.return_, 1) := by decide +kernel
theorem dX3_init_0 : decode cX3_init 0 = .ok (.aload_n 0, 1) := by decide +kernel
theorem dX3_init_1 : decode cX3_init 1 = .ok (.invokespecial 5, 3) := by decide +kernel
theorem dX3_init_4 : decode cX3_init 4 = .ok (.aload_n 0, 1) := by decide +kernel
theorem dX3_init_5 : decode cX3_init 5 = .ok (.sipush 551, 3) := by decide +kernel
theorem dX3_init_8 : decode cX3_init 8 = .ok (.newarray .int, 2) := by decide +kernel
theorem dX3_init_10 : decode cX3_init 10 = .ok (.putfield 11, 3) := by decide +kernel
theorem dX3_init_13 : decode cX3_init 13 = .ok (.aload_n 0, 1) := by decide +kernel
theorem dX3_init_14 : decode cX3_init 14 = .ok (.iconst 0, 1) := by decide +kernel
theorem dX3_init_15 : decode cX3_init 15 = .ok (.putfield 15, 3) := by decide +kernel
theorem dX3_init_18 : decode cX3_init 18 = .ok (.return_, 1) := by decide +kernel
theorem dX4_init_0 : decode cX4_init 0 = .ok (.aload_n 0, 1) := by decide +kernel
theorem dX4_init_1 : decode cX4_init 1 = .ok (.invokespecial 3, 3) := by decide +kernel
theorem dX4_init_4 : decode cX4_init 4 = .ok (.aload_n 0, 1) := by decide +kernel
theorem dX4_init_5 : decode cX4_init 5 = .ok (.new 9, 3) := by decide +kernel
theorem dX4_init_8 : decode cX4_init 8 = .ok (.dup, 1) := by decide +kernel
theorem dX4_init_9 : decode cX4_init 9 = .ok (.bipush 8, 2) := by decide +kernel
theorem dX4_init_11 : decode cX4_init 11 = .ok (.iconst 3, 1) := by decide +kernel
theorem dX4_init_12 : decode cX4_init 12 = .ok (.invokespecial 11, 3) := by decide +kernel
theorem dX4_init_15 : decode cX4_init 15 = .ok (.putfield 14, 3) := by decide +kernel
theorem dX4_init_18 : decode cX4_init 18 = .ok (.aload_n 0, 1) := by decide +kernel
theorem dX4_init_19 : decode cX4_init 19 = .ok (.new 9, 3) := by decide +kernel
theorem dX4_init_22 : decode cX4_init 22 = .ok (.dup, 1) := by decide +kernel
theorem dX4_init_23 : decode cX4_init 23 = .ok (.bipush 12, 2) := by decide +kernel
theorem dX4_init_25 : decode cX4_init 25 = .ok (.iconst 2, 1) := by decide +kernel
theorem dX4_init_26 : decode cX4_init 26 = .ok (.invokespecial 11, 3) := by decide +kernel
theorem dX4_init_29 : decode cX4_init 29 = .ok (.putfield 20, 3) := by decide +kernel
theorem dX4_init_32 : decode cX4_init 32 = .ok (.aload_n 0, 1) := by decide +kernel
theorem dX4_init_33 : decode cX4_init 33 = .ok (.new 9, 3) := by decide +kernel
theorem dX4_init_36 : decode cX4_init 36 = .ok (.dup, 1) := by decide +kernel
theorem dX4_init_37 : decode cX4_init 37 = .ok (.bipush 6, 2) := by decide +kernel
theorem dX4_init_39 : decode cX4_init 39 = .ok (.iconst 2, 1) := by decide +kernel
theorem dX4_init_40 : decode cX4_init 40 = .ok (.invokespecial 11, 3) := by decide +kernel
theorem dX4_init_43 : decode cX4_init 43 = .ok (.putfield 23, 3) := by decide +kernel
theorem dX4_init_46 : decode cX4_init 46 = .ok (.aload_n 0, 1) := by decide +kernel
theorem dX4_init_47 : decode cX4_init 47 = .ok (.new 9, 3) := by decide +kernel
theorem dX4_init_50 : decode cX4_init 50 = .ok (.dup, 1) := by decide +kernel
theorem dX4_init_51 : decode cX4_init 51 = .ok (.bipush 8, 2) := by decide +kernel
theorem dX4_init_53 : decode cX4_init 53 = .ok (.iconst 3, 1) := by decide +kernel
theorem dX4_init_54 : decode cX4_init 54 = .ok (.invokespecial 11, 3) := by decide +kernel
theorem dX4_init_57 : decode cX4_init 57 = .ok (.putfield 26, 3) := by decide +kernel
theorem dX4_init_60 : decode cX4_init 60 = .ok (.aload_n 0, 1) := by decide +kernel
theorem dX4_init_61 : decode cX4_init 61 = .ok (.new 9, 3) := by decide +kernel
theorem dX4_init_64 : decode cX4_init 64 = .ok (.dup, 1) := by decide +kernel
theorem dX4_init_65 : decode cX4_init 65 = .ok (.iconst 4, 1) := by decide +kernel
theorem dX4_init_66 : decode cX4_init 66 = .ok (.iconst 1, 1) := by decide +kernel
theorem dX4_init_67 : decode cX4_init 67 = .ok (.invokespecial 11, 3) := by decide +kernel
theorem dX4_init_70 : decode cX4_init 70 = .ok (.putfield 29, 3) := by decide +kernel
theorem dX4_init_73 : decode cX4_init 73 = .ok (.aload_n 0, 1) := by decide +kernel
theorem dX4_init_74 : decode cX4_init 74 = .ok (.bipush 26, 2) := by decide +kernel
theorem dX4_init_76 : decode cX4_init 76 = .ok (.newarray .int, 2) := by decide +kernel
theorem dX4_init_78 : decode cX4_init 78 = .ok (.putfield 32, 3) := by decide +kernel
theorem dX4_init_81 : decode cX4_init 81 = .ok (.aload_n 0, 1) := by decide +kernel
theorem dX4_init_82 : decode cX4_init 82 = .ok (.bipush 26, 2) := by decide +kernel
theorem dX4_init_84 : decode cX4_init 84 = .ok (.newarray .int, 2) := by decide +kernel
theorem dX4_init_86 : decode cX4_init 86 = .ok (.putfield 36, 3) := by decide +kernel
theorem dX4_init_89 : decode cX4_init 89 = .ok (.aload_n 0, 1) := by decide +kernel
theorem dX4_init_90 : decode cX4_init 90 = .ok (.bipush 8, 2) := by decide +kernel
theorem dX4_init_92 : decode cX4_init 92 = .ok (.newarray .int, 2) := by decide +kernel
theorem dX4_init_94 : decode cX4_init 94 = .ok (.putfield 39, 3) := by decide +kernel
theorem dX4_init_97 : decode cX4_init 97 = .ok (.aload_n 0, 1) := by decide +kernel
theorem dX4_init_98 : decode cX4_init 98 = .ok (.sipush 1600, 3) := by decide +kernel
theorem dX4_init_101 : decode cX4_init 101 = .ok (.newarray .int, 2) := by decide +kernel
theorem dX4_init_103 : decode cX4_init 103 = .ok (.putfield 42, 3) := by decide +kernel
theorem dX4_init_106 : decode cX4_init 106 = .ok (.aload_n 0, 1) := by decide +kernel
theorem dX4_init_107 : decode cX4_init 107 = .ok (.getfield 32, 3) := by decide +kernel
theorem dX4_init_110 : decode cX4_init 110 = .ok (.bipush 10, 2) := by decide +kernel
theorem dX4_init_112 : decode cX4_init 112 = .ok (.invokestatic 45, 3) := by decide +kernel
theorem dX4_init_115 : decode cX4_init 115 = .ok (.return_, 1) := by decide +kernel
theorem dX5_init_0 : decode cX5_init 0 = .ok (.aload_n 0, 1) := by decide +kernel
theorem dX5_init_1 : decode cX5_init 1 = .ok (.invokespecial 3, 3) := by decide +kernel
theorem dX5_init_4 : decode cX5_init 4 = .ok (.aload_n 0, 1) := by decide +kernel
theorem dX5_init_5 : decode cX5_init 5 = .ok (.aload_n 1, 1) := by decide +kernel
theorem dX5_init_6 : decode cX5_init 6 = .ok (.putfield 9, 3) := by decide +kernel
theorem dX5_init_9 : decode cX5_init 9 = .ok (.aload_n 0, 1) := by decide +kernel
theorem dX5_init_10 : decode cX5_init 10 = .ok (.aload_n 2, 1) := by decide +kernel
theorem dX5_init_11 : decode cX5_init 11 = .ok (.putfield 15, 3) := by decide +kernel
theorem dX5_init_14 : decode cX5_init 14 = .ok (.aload_n 0, 1) := by decide +kernel
theorem dX5_init_15 : decode cX5_init 15 = .ok (.iconst 0, 1) := by decide +kernel
theorem dX5_init_16 : decode cX5_init 16 = .ok (.putfield 19, 3) := by decide +kernel
theorem dX5_init_19 : decode cX5_init 19 = .ok (.return_, 1) := by decide +kernel
theorem dX6_init_0 : decode cX6_init 0 = .ok (.aload_n 0, 1) := by decide +kernel
theorem dX6_init_1 : decode cX6_init 1 = .ok (.invokespecial 5, 3) := by decide +kernel
theorem dX6_init_4 : decode cX6_init 4 = .ok (.aload_n 0, 1) := by decide +kernel
theorem dX6_init_5 : decode cX6_init 5 = .ok (.aload_n 1, 1) := by decide +kernel
theorem dX6_init_6 : decode cX6_init 6 = .ok (.putfield 11, 3) := by decide +kernel
theorem dX6_init_9 : decode cX6_init 9 = .ok (.aload_n 0, 1) := by decide +kernel
theorem dX6_init_10 : decode cX6_init 10 = .ok (.bipush 23, 2) := by decide +kernel
theorem dX6_init_12 : decode cX6_init 12 = .ok (.newarray .int, 2) := by decide +kernel
theorem dX6_init_14 : decode cX6_init 14 = .ok (.putfield 15, 3) := by decide +kernel
theorem dX6_init_17 : decode cX6_init 17 = .ok (.aload_n 0, 1) := by decide +kernel
theorem dX6_init_18 : decode cX6_init 18 = .ok (.invokevirtual 18, 3) := by decide +kernel
theorem dX6_init_21 : decode cX6_init 21 = .ok (.return_, 1) := by decide +kernel
theorem dX6_fillOwnNames_0 : decode cX6_fillOwnNames 0 = .ok (.iconst 0, 1) := by decide +kernel
theorem dX6_fillOwnNames_1 : decode cX6_fillOwnNames 1 = .ok (.istore_n 1, 1) := by decide +kernel
theorem dX6_fillOwnNames_2 : decode cX6_fillOwnNames 2 = .ok (.iconst 0, 1) := by decide +kernel
theorem dX6_fillOwnNames_3 : decode cX6_fillOwnNames 3 = .ok (.istore_n 2, 1) := by decide +kernel
theorem dX6_fillOwnNames_4 : decode cX6_fillOwnNames 4 = .ok (.iconst 0, 1) := by decide +kernel
theorem dX6_fillOwnNames_5 : decode cX6_fillOwnNames 5 = .ok (.istore_n 3, 1) := by decide +kernel
theorem dX6_fillOwnNames_6 : decode cX6_fillOwnNames 6 = .ok (.iload_n 3, 1) := by decide +kernel
theorem dX6_fillOwnNames_7 : decode cX6_fillOwnNames 7 = .ok (.ldc 21, 2) := by decide +kernel
theorem dX6_fillOwnNames_9 : decode cX6_fillOwnNames 9 = .ok (.invokevirtual 23, 3) := by decide +kernel
theorem dX6_fillOwnNames_12 : decode cX6_fillOwnNames 12 = .ok (.if_icmp .ge 61, 3) := by decide +kernel
theorem dX6_fillOwnNames_15 : decode cX6_fillOwnNames 15 = .ok (.iload_n 1, 1) := by decide +kernel
theorem dX6_fillOwnNames_16 : decode cX6_fillOwnNames 16 = .ok (.bipush 23, 2) := by decide +kernel
theorem dX6_fillOwnNames_18 : decode cX6_fillOwnNames 18 = .ok (.if_icmp .ge 55, 3) := by decide +kernel
theorem dX6_fillOwnNames_21 : decode cX6_fillOwnNames 21 = .ok (.ldc 21, 2) := by decide +kernel
theorem dX6_fillOwnNames_23 : decode cX6_fillOwnNames 23 = .ok (.iload_n 3, 1) := by decide +kernel
theorem dX6_fillOwnNames_24 : decode cX6_fillOwnNames 24 = .ok (.invokevirtual 29, 3) := by decide +kernel
theorem dX6_fillOwnNames_27 : decode cX6_fillOwnNames 27 = .ok (.istore 4, 2) := by decide +kernel
theorem dX6_fillOwnNames_29 : decode cX6_fillOwnNames 29 = .ok (.iload 4, 2) := by decide +kernel
theorem dX6_fillOwnNames_31 : decode cX6_fillOwnNames 31 = .ok (.bipush 32, 2) := by decide +kernel
theorem dX6_fillOwnNames_33 : decode cX6_fillOwnNames 33 = .ok (.if_icmp .ne 11, 3) := by decide +kernel
theorem dX6_fillOwnNames_36 : decode cX6_fillOwnNames 36 = .ok (.iinc 1 1, 3) := by decide +kernel
theorem dX6_fillOwnNames_39 : decode cX6_fillOwnNames 39 = .ok (.iconst 0, 1) := by decide +kernel
theorem dX6_fillOwnNames_40 : decode cX6_fillOwnNames 40 = .ok (.istore_n 2, 1) := by decide +kernel
theorem dX6_fillOwnNames_41 : decode cX6_fillOwnNames 41 = .ok (.goto 26, 3) := by decide +kernel
theorem dX6_fillOwnNames_44 : decode cX6_fillOwnNames 44 = .ok (.aload_n 0, 1) := by decide +kernel
theorem dX6_fillOwnNames_45 : decode cX6_fillOwnNames 45 = .ok (.getfield 15, 3) := by decide +kernel
theorem dX6_fillOwnNames_48 : decode cX6_fillOwnNames 48 = .ok (.iload_n 1, 1) := by decide +kernel
theorem dX6_fillOwnNames_49 : decode cX6_fillOwnNames 49 = .ok (.dup2, 1) := by decide +kernel
theorem dX6_fillOwnNames_50 : decode cX6_fillOwnNames 50 = .ok (.iaload, 1) := by decide +kernel
theorem dX6_fillOwnNames_51 : decode cX6_fillOwnNames 51 = .ok (.iload 4, 2) := by decide +kernel
theorem dX6_fillOwnNames_53 : decode cX6_fillOwnNames 53 = .ok (.bipush 97, 2) := by decide +kernel
theorem dX6_fillOwnNames_55 : decode cX6_fillOwnNames 55 = .ok (.isub, 1) := by decide +kernel
theorem dX6_fillOwnNames_56 : decode cX6_fillOwnNames 56 = .ok (.iconst 1, 1) := by decide +kernel
theorem dX6_fillOwnNames_57 : decode cX6_fillOwnNames 57 = .ok (.iadd, 1) := by decide +kernel
theorem dX6_fillOwnNames_58 : decode cX6_fillOwnNames 58 = .ok (.iload_n 2, 1) := by decide +kernel
theorem dX6_fillOwnNames_59 : decode cX6_fillOwnNames 59 = .ok (.iconst 5, 1) := by decide +kernel
theorem dX6_fillOwnNames_60 : decode cX6_fillOwnNames 60 = .ok (.imul, 1) := by decide +kernel
theorem dX6_fillOwnNames_61 : decode cX6_fillOwnNames 61 = .ok (.ishl, 1) := by decide +kernel
theorem dX6_fillOwnNames_62 : decode cX6_fillOwnNames 62 = .ok (.ior, 1) := by decide +kernel
theorem dX6_fillOwnNames_63 : decode cX6_fillOwnNames 63 = .ok (.iastore, 1) := by decide +kernel
theorem dX6_fillOwnNames_64 : decode cX6_fillOwnNames 64 = .ok (.iinc 2 1, 3) := by decide +kernel
theorem dX6_fillOwnNames_67 : decode cX6_fillOwnNames 67 = .ok (.iinc 3 1, 3) := by decide +kernel
theorem dX6_fillOwnNames_70 : decode cX6_fillOwnNames 70 = .ok (.goto (-64), 3) := by decide +kernel
theorem dX6_fillOwnNames_73 : decode cX6_fillOwnNames 73 = .ok (.return_, 1) := by decide +kernel
theorem dX7_init_0 : decode cX7_init 0 = .ok (.aload_n 0, 1) := by decide +kernel
theorem dX7_init_1 : decode cX7_init 1 = .ok (.invokespecial 3, 3) := by decide +kernel
theorem dX7_init_4 : decode cX7_init 4 = .ok (.aload_n 0, 1) := by decide +kernel
theorem dX7_init_5 : decode cX7_init 5 = .ok (.iload_n 1, 1) := by decide +kernel
theorem dX7_init_6 : decode cX7_init 6 = .ok (.putfield 9, 3) := by decide +kernel
theorem dX7_init_9 : decode cX7_init 9 = .ok (.aload_n 0, 1) := by decide +kernel
theorem dX7_init_10 : decode cX7_init 10 = .ok (.iload_n 2, 1) := by decide +kernel
theorem dX7_init_11 : decode cX7_init 11 = .ok (.putfield 15, 3) := by decide +kernel
theorem dX7_init_14 : decode cX7_init 14 = .ok (.aload_n 0, 1) := by decide +kernel
theorem dX7_init_15 : decode cX7_init 15 = .ok (.iload_n 1, 1) := by decide +kernel
theorem dX7_init_16 : decode cX7_init 16 = .ok (.iload_n 2, 1) := by decide +kernel
theorem dX7_init_17 : decode cX7_init 17 = .ok (.imul, 1) := by decide +kernel
theorem dX7_init_18 : decode cX7_init 18 = .ok (.newarray .int, 2) := by decide +kernel
theorem dX7_init_20 : decode cX7_init 20 = .ok (.putfield 18, 3) := by decide +kernel
theorem dX7_init_23 : decode cX7_init 23 = .ok (.aload_n 0, 1) := by decide +kernel
theorem dX7_init_24 : decode cX7_init 24 = .ok (.iconst 0, 1) := by decide +kernel
theorem dX7_init_25 : decode cX7_init 25 = .ok (.putfield 22, 3) := by decide +kernel
theorem dX7_init_28 : decode cX7_init 28 = .ok (.aload_n 0, 1) := by decide +kernel
theorem dX7_init_29 : decode cX7_init 29 = .ok (.iconst 0, 1) := by decide +kernel
theorem dX7_init_30 : decode cX7_init 30 = .ok (.putfield 25, 3) := by decide +kernel
theorem dX7_init_33 : decode cX7_init 33 = .ok (.return_, 1) := by decide +kernel
theorem dX8_init_0 : decode cX8_init 0 = .ok (.aload_n 0, 1) := by decide +kernel
theorem dX8_init_1 : decode cX8_init 1 = .ok (.invokespecial 3, 3) := by decide +kernel
theorem dX8_init_4 : decode cX8_init 4 = .ok (.aload_n 0, 1) := by decide +kernel
theorem dX8_init_5 : decode cX8_init 5 = .ok (.iload_n 1, 1) := by decide +kernel
theorem dX8_init_6 : decode cX8_init 6 = .ok (.putfield 9, 3) := by decide +kernel
theorem dX8_init_9 : decode cX8_init 9 = .ok (.aload_n 0, 1) := by decide +kernel
theorem dX8_init_10 : decode cX8_init 10 = .ok (.iload_n 2, 1) := by decide +kernel
theorem dX8_init_11 : decode cX8_init 11 = .ok (.putfield 15, 3) := by decide +kernel
theorem dX8_init_14 : decode cX8_init 14 = .ok (.aload_n 0, 1) := by decide +kernel
theorem dX8_init_15 : decode cX8_init 15 = .ok (.iload_n 1, 1) := by decide +kernel
theorem dX8_init_16 : decode cX8_init 16 = .ok (.newarray .int, 2) := by decide +kernel
theorem dX8_init_18 : decode cX8_init 18 = .ok (.putfield 18, 3) := by decide +kernel
theorem dX8_init_21 : decode cX8_init 21 = .ok (.aload_n 0, 1) := by decide +kernel
theorem dX8_init_22 : decode cX8_init 22 = .ok (.iload_n 1, 1) := by decide +kernel
theorem dX8_init_23 : decode cX8_init 23 = .ok (.iload_n 2, 1) := by decide +kernel
theorem dX8_init_24 : decode cX8_init 24 = .ok (.imul, 1) := by decide +kernel
theorem dX8_init_25 : decode cX8_init 25 = .ok (.newarray .int, 2) := by decide +kernel
theorem dX8_init_27 : decode cX8_init 27 = .ok (.putfield 22, 3) := by decide +kernel
theorem dX8_init_30 : decode cX8_init 30 = .ok (.aload_n 0, 1) := by decide +kernel
theorem dX8_init_31 : decode cX8_init 31 = .ok (.iconst 0, 1) := by decide +kernel
theorem dX8_init_32 : decode cX8_init 32 = .ok (.putfield 25, 3) := by decide +kernel
theorem dX8_init_35 : decode cX8_init 35 = .ok (.return_, 1) := by decide +kernel
theorem dX9_init_0 : decode cX9_init 0 = .ok (.aload_n 0, 1) := by decide +kernel
theorem dX9_init_1 : decode cX9_init 1 = .ok (.invokespecial 3, 3) := by decide +kernel
theorem dX9_init_4 : decode cX9_init 4 = .ok (.aload_n 0, 1) := by decide +kernel
theorem dX9_init_5 : decode cX9_init 5 = .ok (.bipush 12, 2) := by decide +kernel
theorem dX9_init_7 : decode cX9_init 7 = .ok (.newarray .int, 2) := by decide +kernel
theorem dX9_init_9 : decode cX9_init 9 = .ok (.putfield 9, 3) := by decide +kernel
theorem dX9_init_12 : decode cX9_init 12 = .ok (.aload_n 0, 1) := by decide +kernel
theorem dX9_init_13 : decode cX9_init 13 = .ok (.bipush 12, 2) := by decide +kernel
theorem dX9_init_15 : decode cX9_init 15 = .ok (.newarray .int, 2) := by decide +kernel
theorem dX9_init_17 : decode cX9_init 17 = .ok (.putfield 15, 3) := by decide +kernel
theorem dX9_init_20 : decode cX9_init 20 = .ok (.aload_n 0, 1) := by decide +kernel
theorem dX9_init_21 : decode cX9_init 21 = .ok (.bipush 13, 2) := by decide +kernel
theorem dX9_init_23 : decode cX9_init 23 = .ok (.newarray .int, 2) := by decide +kernel
theorem dX9_init_25 : decode cX9_init 25 = .ok (.putfield 18, 3) := by decide +kernel
theorem dX9_init_28 : decode cX9_init 28 = .ok (.aload_n 0, 1) := by decide +kernel
theorem dX9_init_29 : decode cX9_init 29 = .ok (.bipush 16, 2) := by decide +kernel
theorem dX9_init_31 : decode cX9_init 31 = .ok (.newarray .int, 2) := by decide +kernel
theorem dX9_init_33 : decode cX9_init 33 = .ok (.putfield 21, 3) := by decide +kernel
theorem dX9_init_36 : decode cX9_init 36 = .ok (.aload_n 0, 1) := by decide +kernel
theorem dX9_init_37 : decode cX9_init 37 = .ok (.bipush 17, 2) := by decide +kernel
theorem dX9_init_39 : decode cX9_init 39 = .ok (.newarray .int, 2) := by decide +kernel
theorem dX9_init_41 : decode cX9_init 41 = .ok (.putfield 24, 3) := by decide +kernel
theorem dX9_init_44 : decode cX9_init 44 = .ok (.aload_n 0, 1) := by decide +kernel
theorem dX9_init_45 : decode cX9_init 45 = .ok (.bipush 8, 2) := by decide +kernel
theorem dX9_init_47 : decode cX9_init 47 = .ok (.newarray .int, 2) := by decide +kernel
theorem dX9_init_49 : decode cX9_init 49 = .ok (.putfield 27, 3) := by decide +kernel
theorem dX9_init_52 : decode cX9_init 52 = .ok (.aload_n 0, 1) := by decide +kernel
theorem dX9_init_53 : decode cX9_init 53 = .ok (.bipush 8, 2) := by decide +kernel
theorem dX9_init_55 : decode cX9_init 55 = .ok (.newarray .int, 2) := by decide +kernel
theorem dX9_init_57 : decode cX9_init 57 = .ok (.putfield 30, 3) := by decide +kernel
theorem dX9_init_60 : decode cX9_init 60 = .ok (.return_, 1) := by decide +kernel
theorem dX10_init_0 : decode cX10_init 0 = .ok (.aload_n 0, 1) := by decide +kernel
theorem dX10_init_1 : decode cX10_init 1 = .ok (.invokespecial 1, 3) := by decide +kernel
theorem dX10_init_4 : decode cX10_init 4 = .ok (.aload_n 0, 1) := by decide +kernel
theorem dX10_init_5 : decode cX10_init 5 = .ok (.sipush 1600, 3) := by decide +kernel
theorem dX10_init_8 : decode cX10_init 8 = .ok (.newarray .int, 2) := by decide +kernel
theorem dX10_init_10 : decode cX10_init 10 = .ok (.putfield 9, 3) := by decide +kernel
theorem dX10_init_13 : decode cX10_init 13 = .ok (.aload_n 0, 1) := by decide +kernel
theorem dX10_init_14 : decode cX10_init 14 = .ok (.bipush 6, 2) := by decide +kernel
theorem dX10_init_16 : decode cX10_init 16 = .ok (.newarray .int, 2) := by decide +kernel
theorem dX10_init_18 : decode cX10_init 18 = .ok (.putfield 13, 3) := by decide +kernel
theorem dX10_init_21 : decode cX10_init 21 = .ok (.aload_n 0, 1) := by decide +kernel
theorem dX10_init_22 : decode cX10_init 22 = .ok (.new 16, 3) := by decide +kernel
theorem dX10_init_25 : decode cX10_init 25 = .ok (.dup, 1) := by decide +kernel
theorem dX10_init_26 : decode cX10_init 26 = .ok (.aload_n 0, 1) := by decide +kernel
theorem dX10_init_27 : decode cX10_init 27 = .ok (.getfield 9, 3) := by decide +kernel
theorem dX10_init_30 : decode cX10_init 30 = .ok (.invokespecial 18, 3) := by decide +kernel
theorem dX10_init_33 : decode cX10_init 33 = .ok (.putfield 21, 3) := by decide +kernel
theorem dX10_init_36 : decode cX10_init 36 = .ok (.aload_n 0, 1) := by decide +kernel
theorem dX10_init_37 : decode cX10_init 37 = .ok (.new 25, 3) := by decide +kernel
theorem dX10_init_40 : decode cX10_init 40 = .ok (.dup, 1) := by decide +kernel
theorem dX10_init_41 : decode cX10_init 41 = .ok (.invokespecial 27, 3) := by decide +kernel
theorem dX10_init_44 : decode cX10_init 44 = .ok (.putfield 28, 3) := by decide +kernel
theorem dX10_init_47 : decode cX10_init 47 = .ok (.aload_n 0, 1) := by decide +kernel
theorem dX10_init_48 : decode cX10_init 48 = .ok (.new 32, 3) := by decide +kernel
theorem dX10_init_51 : decode cX10_init 51 = .ok (.dup, 1) := by decide +kernel
theorem dX10_init_52 : decode cX10_init 52 = .ok (.aload_n 0, 1) := by decide +kernel
theorem dX10_init_53 : decode cX10_init 53 = .ok (.getfield 21, 3) := by decide +kernel
theorem dX10_init_56 : decode cX10_init 56 = .ok (.aload_n 0, 1) := by decide +kernel
theorem dX10_init_57 : decode cX10_init 57 = .ok (.getfield 28, 3) := by decide +kernel
theorem dX10_init_60 : decode cX10_init 60 = .ok (.invokespecial 34, 3) := by decide +kernel
theorem dX10_init_63 : decode cX10_init 63 = .ok (.putfield 37, 3) := by decide +kernel
theorem dX10_init_66 : decode cX10_init 66 = .ok (.aload_n 0, 1) := by decide +kernel
theorem dX10_init_67 : decode cX10_init 67 = .ok (.new 41, 3) := by decide +kernel
theorem dX10_init_70 : decode cX10_init 70 = .ok (.dup, 1) := by decide +kernel
theorem dX10_init_71 : decode cX10_init 71 = .ok (.invokespecial 43, 3) := by decide +kernel
theorem dX10_init_74 : decode cX10_init 74 = .ok (.putfield 44, 3) := by decide +kernel
theorem dX10_init_77 : decode cX10_init 77 = .ok (.aload_n 0, 1) := by decide +kernel
theorem dX10_init_78 : decode cX10_init 78 = .ok (.new 48, 3) := by decide +kernel
theorem dX10_init_81 : decode cX10_init 81 = .ok (.dup, 1) := by decide +kernel
theorem dX10_init_82 : decode cX10_init 82 = .ok (.new 25, 3) := by decide +kernel
theorem dX10_init_85 : decode cX10_init 85 = .ok (.dup, 1) := by decide +kernel
theorem dX10_init_86 : decode cX10_init 86 = .ok (.invokespecial 27, 3) := by decide +kernel
theorem dX10_init_89 : decode cX10_init 89 = .ok (.invokespecial 50, 3) := by decide +kernel
theorem dX10_init_92 : decode cX10_init 92 = .ok (.putfield 53, 3) := by decide +kernel
theorem dX10_init_95 : decode cX10_init 95 = .ok (.aload_n 0, 1) := by decide +kernel
theorem dX10_init_96 : decode cX10_init 96 = .ok (.new 57, 3) := by decide +kernel
theorem dX10_init_99 : decode cX10_init 99 = .ok (.dup, 1) := by decide +kernel
theorem dX10_init_100 : decode cX10_init 100 = .ok (.aload_n 0, 1) := by decide +kernel
theorem dX10_init_101 : decode cX10_init 101 = .ok (.getfield 53, 3) := by decide +kernel
theorem dX10_init_104 : decode cX10_init 104 = .ok (.aload_n 0, 1) := by decide +kernel
theorem dX10_init_105 : decode cX10_init 105 = .ok (.getfield 44, 3) := by decide +kernel
theorem dX10_init_108 : decode cX10_init 108 = .ok (.invokespecial 59, 3) := by decide +kernel
theorem dX10_init_111 : decode cX10_init 111 = .ok (.putfield 62, 3) := by decide +kernel
theorem dX10_init_114 : decode cX10_init 114 = .ok (.aload_n 0, 1) := by decide +kernel
theorem dX10_init_115 : decode cX10_init 115 = .ok (.new 66, 3) := by decide +kernel
theorem dX10_init_118 : decode cX10_init 118 = .ok (.dup, 1) := by decide +kernel
theorem dX10_init_119 : decode cX10_init 119 = .ok (.invokespecial 68, 3) := by decide +kernel
theorem dX10_init_122 : decode cX10_init 122 = .ok (.putfield 69, 3) := by decide +kernel
theorem dX10_init_125 : decode cX10_init 125 = .ok (.aload_n 0, 1) := by decide +kernel
theorem dX10_init_126 : decode cX10_init 126 = .ok (.iconst 0, 1) := by decide +kernel
theorem dX10_init_127 : decode cX10_init 127 = .ok (.putfield 73, 3) := by decide +kernel
theorem dX10_init_130 : decode cX10_init 130 = .ok (.aload_n 0, 1) := by decide +kernel
theorem dX10_init_131 : decode cX10_init 131 = .ok (.iconst 0, 1) := by decide +kernel
theorem dX10_init_132 : decode cX10_init 132 = .ok (.putfield 77, 3) := by decide +kernel
theorem dX10_init_135 : decode cX10_init 135 = .ok (.aload_n 0, 1) := by decide +kernel
theorem dX10_init_136 : decode cX10_init 136 = .ok (.iconst (-1), 1) := by decide +kernel
theorem dX10_init_137 : decode cX10_init 137 = .ok (.putfield 80, 3) := by decide +kernel
theorem dX10_init_140 : decode cX10_init 140 = .ok (.return_, 1) := by decide +kernel
theorem dX11_init_0 : decode cX11_init 0 = .ok (.aload_n 0, 1) := by decide +kernel
theorem dX11_init_1 : decode cX11_init 1 = .ok (.invokespecial 1, 3) := by decide +kernel
theorem dX11_init_4 : decode cX11_init 4 = .ok (.aload_n 0, 1) := by decide +kernel
theorem dX11_init_5 : decode cX11_init 5 = .ok (.sipush 1800, 3) := by decide +kernel
theorem dX11_init_8 : decode cX11_init 8 = .ok (.newarray .int, 2) := by decide +kernel
theorem dX11_init_10 : decode cX11_init 10 = .ok (.putfield 7, 3) := by decide +kernel
theorem dX11_init_13 : decode cX11_init 13 = .ok (.aload_n 0, 1) := by decide +kernel
theorem dX11_init_14 : decode cX11_init 14 = .ok (.iconst 0, 1) := by decide +kernel
theorem dX11_init_15 : decode cX11_init 15 = .ok (.putfield 13, 3) := by decide +kernel
theorem dX11_init_18 : decode cX11_init 18 = .ok (.aload_n 0, 1) := by decide +kernel
theorem dX11_init_19 : decode cX11_init 19 = .ok (.iconst 0, 1) := by decide +kernel
theorem dX11_init_20 : decode cX11_init 20 = .ok (.putfield 17, 3) := by decide +kernel
theorem dX11_init_23 : decode cX11_init 23 = .ok (.aload_n 0, 1) := by decide +kernel
theorem dX11_init_24 : decode cX11_init 24 = .ok (.iconst 0, 1) := by decide +kernel
theorem dX11_init_25 : decode cX11_init 25 = .ok (.putfield 20, 3) := by decide +kernel
theorem dX11_init_28 : decode cX11_init 28 = .ok (.aload_n 0, 1) := by decide +kernel
theorem dX11_init_29 : decode cX11_init 29 = .ok (.iconst 0, 1) := by decide +kernel
theorem dX11_init_30 : decode cX11_init 30 = .ok (.putfield 23, 3) := by decide +kernel
theorem dX11_init_33 : decode cX11_init 33 = .ok (.aload_n 0, 1) := by decide +kernel
theorem dX11_init_34 : decode cX11_init 34 = .ok (.iconst 0, 1) := by decide +kernel
theorem dX11_init_35 : decode cX11_init 35 = .ok (.putfield 26, 3) := by decide +kernel
theorem dX11_init_38 : decode cX11_init 38 = .ok (.aload_n 0, 1) := by decide +kernel
theorem dX11_init_39 : decode cX11_init 39 = .ok (.iconst 0, 1) := by decide +kernel
theorem dX11_init_40 : decode cX11_init 40 = .ok (.putfield 29, 3) := by decide +kernel
theorem dX11_init_43 : decode cX11_init 43 = .ok (.aload_n 0, 1) := by decide +kernel
theorem dX11_init_44 : decode cX11_init 44 = .ok (.lconst 0, 1) := by decide +kernel
theorem dX11_init_45 : decode cX11_init 45 = .ok (.putfield 32, 3) := by decide +kernel
theorem dX11_init_48 : decode cX11_init 48 = .ok (.aload_n 0, 1) := by decide +kernel
theorem dX11_init_49 : decode cX11_init 49 = .ok (.iconst 0, 1) := by decide +kernel
theorem dX11_init_50 : decode cX11_init 50 = .ok (.putfield 36, 3) := by decide +kernel
theorem dX11_init_53 : decode cX11_init 53 = .ok (.aload_n 0, 1) := by decide +kernel
theorem dX11_init_54 : decode cX11_init 54 = .ok (.iconst (-1), 1) := by decide +kernel
theorem dX11_init_55 : decode cX11_init 55 = .ok (.putfield 39, 3) := by decide +kernel
theorem dX11_init_58 : decode cX11_init 58 = .ok (.aload_n 0, 1) := by decide +kernel
theorem dX11_init_59 : decode cX11_init 59 = .ok (.iconst 0, 1) := by decide +kernel
theorem dX11_init_60 : decode cX11_init 60 = .ok (.putfield 42, 3) := by decide +kernel
theorem dX11_init_63 : decode cX11_init 63 = .ok (.aload_n 0, 1) := by decide +kernel
theorem dX11_init_64 : decode cX11_init 64 = .ok (.iconst (-1), 1) := by decide +kernel
theorem dX11_init_65 : decode cX11_init 65 = .ok (.putfield 45, 3) := by decide +kernel
theorem dX11_init_68 : decode cX11_init 68 = .ok (.aload_n 0, 1) := by decide +kernel
theorem dX11_init_69 : decode cX11_init 69 = .ok (.iconst 0, 1) := by decide +kernel
theorem dX11_init_70 : decode cX11_init 70 = .ok (.putfield 48, 3) := by decide +kernel
theorem dX11_init_73 : decode cX11_init 73 = .ok (.aload_n 0, 1) := by decide +kernel
theorem dX11_init_74 : decode cX11_init 74 = .ok (.bipush 52, 2) := by decide +kernel
theorem dX11_init_76 : decode cX11_init 76 = .ok (.newarray .int, 2) := by decide +kernel
theorem dX11_init_78 : decode cX11_init 78 = .ok (.putfield 51, 3) := by decide +kernel
theorem dX11_init_81 : decode cX11_init 81 = .ok (.aload_n 0, 1) := by decide +kernel
theorem dX11_init_82 : decode cX11_init 82 = .ok (.iconst 2, 1) := by decide +kernel
theorem dX11_init_83 : decode cX11_init 83 = .ok (.newarray .int, 2) := by decide +kernel
theorem dX11_init_85 : decode cX11_init 85 = .ok (.putfield 54, 3) := by decide +kernel
theorem dX11_init_88 : decode cX11_init 88 = .ok (.aload_n 0, 1) := by decide +kernel
theorem dX11_init_89 : decode cX11_init 89 = .ok (.bipush 16, 2) := by decide +kernel
theorem dX11_init_91 : decode cX11_init 91 = .ok (.newarray .long, 2) := by decide +kernel
theorem dX11_init_93 : decode cX11_init 93 = .ok (.putfield 57, 3) := by decide +kernel
theorem dX11_init_96 : decode cX11_init 96 = .ok (.aload_n 0, 1) := by decide +kernel
theorem dX11_init_97 : decode cX11_init 97 = .ok (.bipush 16, 2) := by decide +kernel
theorem dX11_init_99 : decode cX11_init 99 = .ok (.newarray .int, 2) := by decide +kernel
theorem dX11_init_101 : decode cX11_init 101 = .ok (.putfield 61, 3) := by decide +kernel
theorem dX11_init_104 : decode cX11_init 104 = .ok (.aload_n 0, 1) := by decide +kernel
theorem dX11_init_105 : decode cX11_init 105 = .ok (.bipush 16, 2) := by decide +kernel
theorem dX11_init_107 : decode cX11_init 107 = .ok (.newarray .int, 2) := by decide +kernel
theorem dX11_init_109 : decode cX11_init 109 = .ok (.putfield 64, 3) := by decide +kernel
theorem dX11_init_112 : decode cX11_init 112 = .ok (.aload_n 0, 1) := by decide +kernel
theorem dX11_init_113 : decode cX11_init 113 = .ok (.bipush 16, 2) := by decide +kernel
theorem dX11_init_115 : decode cX11_init 115 = .ok (.newarray .int, 2) := by decide +kernel
theorem dX11_init_117 : decode cX11_init 117 = .ok (.putfield 67, 3) := by decide +kernel
theorem dX11_init_120 : decode cX11_init 120 = .ok (.aload_n 0, 1) := by decide +kernel
theorem dX11_init_121 : decode cX11_init 121 = .ok (.bipush 16, 2) := by decide +kernel
theorem dX11_init_123 : decode cX11_init 123 = .ok (.newarray .int, 2) := by decide +kernel
theorem dX11_init_125 : decode cX11_init 125 = .ok (.putfield 70, 3) := by decide +kernel
theorem dX11_init_128 : decode cX11_init 128 = .ok (.aload_n 0, 1) := by decide +kernel
theorem dX11_init_129 : decode cX11_init 129 = .ok (.iconst 2, 1) := by decide +kernel
theorem dX11_init_130 : decode cX11_init 130 = .ok (.newarray .int, 2) := by decide +kernel
theorem dX11_init_132 : decode cX11_init 132 = .ok (.putfield 73, 3) := by decide +kernel
theorem dX11_init_135 : decode cX11_init 135 = .ok (.aload_n 0, 1) := by decide +kernel
theorem dX11_init_136 : decode cX11_init 136 = .ok (.bipush 24, 2) := by decide +kernel
theorem dX11_init_138 : decode cX11_init 138 = .ok (.newarray .long, 2) := by decide +kernel
theorem dX11_init_140 : decode cX11_init 140 = .ok (.putfield 76, 3) := by decide +kernel
theorem dX11_init_143 : decode cX11_init 143 = .ok (.aload_n 0, 1) := by decide +kernel
theorem dX11_init_144 : decode cX11_init 144 = .ok (.bipush 24, 2) := by decide +kernel
theorem dX11_init_146 : decode cX11_init 146 = .ok (.newarray .int, 2) := by decide +kernel
theorem dX11_init_148 : decode cX11_init 148 = .ok (.putfield 79, 3) := by decide +kernel
theorem dX11_init_151 : decode cX11_init 151 = .ok (.aload_n 0, 1) := by decide +kernel
theorem dX11_init_152 : decode cX11_init 152 = .ok (.bipush 52, 2) := by decide +kernel
theorem dX11_init_154 : decode cX11_init 154 = .ok (.newarray .int, 2) := by decide +kernel
theorem dX11_init_156 : decode cX11_init 156 = .ok (.putfield 82, 3) := by decide +kernel
theorem dX11_init_159 : decode cX11_init 159 = .ok (.aload_n 0, 1) := by decide +kernel
theorem dX11_init_160 : decode cX11_init 160 = .ok (.iconst 2, 1) := by decide +kernel
theorem dX11_init_161 : decode cX11_init 161 = .ok (.newarray .int, 2) := by decide +kernel
theorem dX11_init_163 : decode cX11_init 163 = .ok (.putfield 85, 3) := by decide +kernel
theorem dX11_init_166 : decode cX11_init 166 = .ok (.aload_n 0, 1) := by decide +kernel
theorem dX11_init_167 : decode cX11_init 167 = .ok (.bipush 12, 2) := by decide +kernel
theorem dX11_init_169 : decode cX11_init 169 = .ok (.newarray .int, 2) := by decide +kernel
theorem dX11_init_171 : decode cX11_init 171 = .ok (.putfield 88, 3) := by decide +kernel
theorem dX11_init_174 : decode cX11_init 174 = .ok (.aload_n 0, 1) := by decide +kernel
theorem dX11_init_175 : decode cX11_init 175 = .ok (.bipush 12, 2) := by decide +kernel
theorem dX11_init_177 : decode cX11_init 177 = .ok (.newarray .int, 2) := by decide +kernel
theorem dX11_init_179 : decode cX11_init 179 = .ok (.putfield 91, 3) := by decide +kernel
theorem dX11_init_182 : decode cX11_init 182 = .ok (.aload_n 0, 1) := by decide +kernel
theorem dX11_init_183 : decode cX11_init 183 = .ok (.iconst 2, 1) := by decide +kernel
theorem dX11_init_184 : decode cX11_init 184 = .ok (.newarray .int, 2) := by decide +kernel
theorem dX11_init_186 : decode cX11_init 186 = .ok (.putfield 94, 3) := by decide +kernel
theorem dX11_init_189 : decode cX11_init 189 = .ok (.aload_n 0, 1) := by decide +kernel
theorem dX11_init_190 : decode cX11_init 190 = .ok (.bipush 16, 2) := by decide +kernel
theorem dX11_init_192 : decode cX11_init 192 = .ok (.newarray .int, 2) := by decide +kernel
theorem dX11_init_194 : decode cX11_init 194 = .ok (.putfield 97, 3) := by decide +kernel
theorem dX11_init_197 : decode cX11_init 197 = .ok (.aload_n 0, 1) := by decide +kernel
theorem dX11_init_198 : decode cX11_init 198 = .ok (.bipush 16, 2) := by decide +kernel
theorem dX11_init_200 : decode cX11_init 200 = .ok (.newarray .int, 2) := by decide +kernel
theorem dX11_init_202 : decode cX11_init 202 = .ok (.putfield 100, 3) := by decide +kernel
theorem dX11_init_205 : decode cX11_init 205 = .ok (.aload_n 0, 1) := by decide +kernel
theorem dX11_init_206 : decode cX11_init 206 = .ok (.bipush 16, 2) := by decide +kernel
theorem dX11_init_208 : decode cX11_init 208 = .ok (.newarray .int, 2) := by decide +kernel
theorem dX11_init_210 : decode cX11_init 210 = .ok (.putfield 103, 3) := by decide +kernel
theorem dX11_init_213 : decode cX11_init 213 = .ok (.aload_n 0, 1) := by decide +kernel
theorem dX11_init_214 : decode cX11_init 214 = .ok (.iconst 2, 1) := by decide +kernel
theorem dX11_init_215 : decode cX11_init 215 = .ok (.newarray .int, 2) := by decide +kernel
theorem dX11_init_217 : decode cX11_init 217 = .ok (.putfield 106, 3) := by decide +kernel
theorem dX11_init_220 : decode cX11_init 220 = .ok (.aload_n 0, 1) := by decide +kernel
theorem dX11_init_221 : decode cX11_init 221 = .ok (.bipush 8, 2) := by decide +kernel
theorem dX11_init_223 : decode cX11_init 223 = .ok (.newarray .long, 2) := by decide +kernel
theorem dX11_init_225 : decode cX11_init 225 = .ok (.putfield 109, 3) := by decide +kernel
theorem dX11_init_228 : decode cX11_init 228 = .ok (.aload_n 0, 1) := by decide +kernel
theorem dX11_init_229 : decode cX11_init 229 = .ok (.bipush 8, 2) := by decide +kernel
theorem dX11_init_231 : decode cX11_init 231 = .ok (.newarray .int, 2) := by decide +kernel
theorem dX11_init_233 : decode cX11_init 233 = .ok (.putfield 112, 3) := by decide +kernel
theorem dX11_init_236 : decode cX11_init 236 = .ok (.aload_n 0, 1) := by decide +kernel
theorem dX11_init_237 : decode cX11_init 237 = .ok (.iconst 2, 1) := by decide +kernel
theorem dX11_init_238 : decode cX11_init 238 = .ok (.newarray .int, 2) := by decide +kernel
theorem dX11_init_240 : decode cX11_init 240 = .ok (.putfield 115, 3) := by decide +kernel
theorem dX11_init_243 : decode cX11_init 243 = .ok (.aload_n 0, 1) := by decide +kernel
theorem dX11_init_244 : decode cX11_init 244 = .ok (.sipush 3200, 3) := by decide +kernel
theorem dX11_init_247 : decode cX11_init 247 = .ok (.newarray .int, 2) := by decide +kernel
theorem dX11_init_249 : decode cX11_init 249 = .ok (.putfield 118, 3) := by decide +kernel
theorem dX11_init_252 : decode cX11_init 252 = .ok (.aload_n 0, 1) := by decide +kernel
theorem dX11_init_253 : decode cX11_init 253 = .ok (.sipush 3200, 3) := by decide +kernel
theorem dX11_init_256 : decode cX11_init 256 = .ok (.newarray .int, 2) := by decide +kernel
theorem dX11_init_258 : decode cX11_init 258 = .ok (.putfield 121, 3) := by decide +kernel
theorem dX11_init_261 : decode cX11_init 261 = .ok (.aload_n 0, 1) := by decide +kernel
theorem dX11_init_262 : decode cX11_init 262 = .ok (.iconst 0, 1) := by decide +kernel
theorem dX11_init_263 : decode cX11_init 263 = .ok (.putfield 124, 3) := by decide +kernel
theorem dX11_init_266 : decode cX11_init 266 = .ok (.aload_n 0, 1) := by decide +kernel
theorem dX11_init_267 : decode cX11_init 267 = .ok (.iconst 1, 1) := by decide +kernel
theorem dX11_init_268 : decode cX11_init 268 = .ok (.putfield 127, 3) := by decide +kernel
theorem dX11_init_271 : decode cX11_init 271 = .ok (.aload_n 0, 1) := by decide +kernel
theorem dX11_init_272 : decode cX11_init 272 = .ok (.bipush 20, 2) := by decide +kernel
theorem dX11_init_274 : decode cX11_init 274 = .ok (.newarray .int, 2) := by decide +kernel
theorem dX11_init_276 : decode cX11_init 276 = .ok (.putfield 130, 3) := by decide +kernel
theorem dX11_init_279 : decode cX11_init 279 = .ok (.aload_n 0, 1) := by decide +kernel
theorem dX11_init_280 : decode cX11_init 280 = .ok (.bipush 20, 2) := by decide +kernel
theorem dX11_init_282 : decode cX11_init 282 = .ok (.newarray .int, 2) := by decide +kernel
theorem dX11_init_284 : decode cX11_init 284 = .ok (.putfield 133, 3) := by decide +kernel
theorem dX11_init_287 : decode cX11_init 287 = .ok (.aload_n 0, 1) := by decide +kernel
theorem dX11_init_288 : decode cX11_init 288 = .ok (.bipush 20, 2) := by decide +kernel
theorem dX11_init_290 : decode cX11_init 290 = .ok (.newarray .boolean, 2) := by decide +kernel
theorem dX11_init_292 : decode cX11_init 292 = .ok (.putfield 136, 3) := by decide +kernel
theorem dX11_init_295 : decode cX11_init 295 = .ok (.aload_n 0, 1) := by decide +kernel
theorem dX11_init_296 : decode cX11_init 296 = .ok (.bipush 20, 2) := by decide +kernel
theorem dX11_init_298 : decode cX11_init 298 = .ok (.newarray .int, 2) := by decide +kernel
theorem dX11_init_300 : decode cX11_init 300 = .ok (.putfield 140, 3) := by decide +kernel
theorem dX11_init_303 : decode cX11_init 303 = .ok (.aload_n 0, 1) := by decide +kernel
theorem dX11_init_304 : decode cX11_init 304 = .ok (.bipush 20, 2) := by decide +kernel
theorem dX11_init_306 : decode cX11_init 306 = .ok (.newarray .int, 2) := by decide +kernel
theorem dX11_init_308 : decode cX11_init 308 = .ok (.putfield 143, 3) := by decide +kernel
theorem dX11_init_311 : decode cX11_init 311 = .ok (.aload_n 0, 1) := by decide +kernel
theorem dX11_init_312 : decode cX11_init 312 = .ok (.iconst 0, 1) := by decide +kernel
theorem dX11_init_313 : decode cX11_init 313 = .ok (.putfield 146, 3) := by decide +kernel
theorem dX11_init_316 : decode cX11_init 316 = .ok (.aload_n 0, 1) := by decide +kernel
theorem dX11_init_317 : decode cX11_init 317 = .ok (.iconst 0, 1) := by decide +kernel
theorem dX11_init_318 : decode cX11_init 318 = .ok (.putfield 149, 3) := by decide +kernel
theorem dX11_init_321 : decode cX11_init 321 = .ok (.aload_n 0, 1) := by decide +kernel
theorem dX11_init_322 : decode cX11_init 322 = .ok (.sipush 500, 3) := by decide +kernel
theorem dX11_init_325 : decode cX11_init 325 = .ok (.newarray .int, 2) := by decide +kernel
theorem dX11_init_327 : decode cX11_init 327 = .ok (.putfield 152, 3) := by decide +kernel
theorem dX11_init_330 : decode cX11_init 330 = .ok (.aload_n 0, 1) := by decide +kernel
theorem dX11_init_331 : decode cX11_init 331 = .ok (.iconst 0, 1) := by decide +kernel
theorem dX11_init_332 : decode cX11_init 332 = .ok (.putfield 155, 3) := by decide +kernel
theorem dX11_init_335 : decode cX11_init 335 = .ok (.aload_n 0, 1) := by decide +kernel
theorem dX11_init_336 : decode cX11_init 336 = .ok (.iconst 0, 1) := by decide +kernel
theorem dX11_init_337 : decode cX11_init 337 = .ok (.putfield 158, 3) := by decide +kernel
theorem dX11_init_340 : decode cX11_init 340 = .ok (.aload_n 0, 1) := by decide +kernel
theorem dX11_init_341 : decode cX11_init 341 = .ok (.bipush 6, 2) := by decide +kernel
theorem dX11_init_343 : decode cX11_init 343 = .ok (.newarray .int, 2) := by decide +kernel
theorem dX11_init_345 : decode cX11_init 345 = .ok (.putfield 162, 3) := by decide +kernel
theorem dX11_init_348 : decode cX11_init 348 = .ok (.aload_n 0, 1) := by decide +kernel
theorem dX11_init_349 : decode cX11_init 349 = .ok (.sipush 1650, 3) := by decide +kernel
theorem dX11_init_352 : decode cX11_init 352 = .ok (.newarray .long, 2) := by decide +kernel
theorem dX11_init_354 : decode cX11_init 354 = .ok (.putfield 165, 3) := by decide +kernel
theorem dX11_init_357 : decode cX11_init 357 = .ok (.aload_n 0, 1) := by decide +kernel
theorem dX11_init_358 : decode cX11_init 358 = .ok (.bipush 10, 2) := by decide +kernel
theorem dX11_init_360 : decode cX11_init 360 = .ok (.newarray .int, 2) := by decide +kernel
theorem dX11_init_362 : decode cX11_init 362 = .ok (.putfield 168, 3) := by decide +kernel
theorem dX11_init_365 : decode cX11_init 365 = .ok (.aload_n 0, 1) := by decide +kernel
theorem dX11_init_366 : decode cX11_init 366 = .ok (.iconst 0, 1) := by decide +kernel
theorem dX11_init_367 : decode cX11_init 367 = .ok (.putfield 171, 3) := by decide +kernel
theorem dX11_init_370 : decode cX11_init 370 = .ok (.aload_n 0, 1) := by decide +kernel
theorem dX11_init_371 : decode cX11_init 371 = .ok (.bipush 8, 2) := by decide +kernel
theorem dX11_init_373 : decode cX11_init 373 = .ok (.newarray .int, 2) := by decide +kernel
theorem dX11_init_375 : decode cX11_init 375 = .ok (.putfield 174, 3) := by decide +kernel
theorem dX11_init_378 : decode cX11_init 378 = .ok (.aload_n 0, 1) := by decide +kernel
theorem dX11_init_379 : decode cX11_init 379 = .ok (.sipush 234, 3) := by decide +kernel
theorem dX11_init_382 : decode cX11_init 382 = .ok (.newarray .int, 2) := by decide +kernel
theorem dX11_init_384 : decode cX11_init 384 = .ok (.putfield 177, 3) := by decide +kernel
theorem dX11_init_387 : decode cX11_init 387 = .ok (.aload_n 0, 1) := by decide +kernel
theorem dX11_init_388 : decode cX11_init 388 = .ok (.iconst 0, 1) := by decide +kernel
theorem dX11_init_389 : decode cX11_init 389 = .ok (.putfield 180, 3) := by decide +kernel
theorem dX11_init_392 : decode cX11_init 392 = .ok (.aload_n 0, 1) := by decide +kernel
theorem dX11_init_393 : decode cX11_init 393 = .ok (.iconst 0, 1) := by decide +kernel
theorem dX11_init_394 : decode cX11_init 394 = .ok (.putfield 183, 3) := by decide +kernel
theorem dX11_init_397 : decode cX11_init 397 = .ok (.aload_n 0, 1) := by decide +kernel
theorem dX11_init_398 : decode cX11_init 398 = .ok (.bipush 20, 2) := by decide +kernel
theorem dX11_init_400 : decode cX11_init 400 = .ok (.newarray .int, 2) := by decide +kernel
theorem dX11_init_402 : decode cX11_init 402 = .ok (.putfield 186, 3) := by decide +kernel
theorem dX11_init_405 : decode cX11_init 405 = .ok (.aload_n 0, 1) := by decide +kernel
theorem dX11_init_406 : decode cX11_init 406 = .ok (.bipush 20, 2) := by decide +kernel
theorem dX11_init_408 : decode cX11_init 408 = .ok (.newarray .int, 2) := by decide +kernel
theorem dX11_init_410 : decode cX11_init 410 = .ok (.putfield 189, 3) := by decide +kernel
theorem dX11_init_413 : decode cX11_init 413 = .ok (.aload_n 0, 1) := by decide +kernel
theorem dX11_init_414 : decode cX11_init 414 = .ok (.bipush 20, 2) := by decide +kernel
theorem dX11_init_416 : decode cX11_init 416 = .ok (.newarray .int, 2) := by decide +kernel
theorem dX11_init_418 : decode cX11_init 418 = .ok (.putfield 192, 3) := by decide +kernel
theorem dX11_init_421 : decode cX11_init 421 = .ok (.aload_n 0, 1) := by decide +kernel
theorem dX11_init_422 : decode cX11_init 422 = .ok (.iconst 0, 1) := by decide +kernel
theorem dX11_init_423 : decode cX11_init 423 = .ok (.putfield 195, 3) := by decide +kernel
theorem dX11_init_426 : decode cX11_init 426 = .ok (.aload_n 0, 1) := by decide +kernel
theorem dX11_init_427 : decode cX11_init 427 = .ok (.bipush 30, 2) := by decide +kernel
theorem dX11_init_429 : decode cX11_init 429 = .ok (.newarray .int, 2) := by decide +kernel
theorem dX11_init_431 : decode cX11_init 431 = .ok (.putfield 198, 3) := by decide +kernel
theorem dX11_init_434 : decode cX11_init 434 = .ok (.aload_n 0, 1) := by decide +kernel
theorem dX11_init_435 : decode cX11_init 435 = .ok (.iconst 0, 1) := by decide +kernel
theorem dX11_init_436 : decode cX11_init 436 = .ok (.putfield 201, 3) := by decide +kernel
theorem dX11_init_439 : decode cX11_init 439 = .ok (.aload_n 0, 1) := by decide +kernel
theorem dX11_init_440 : decode cX11_init 440 = .ok (.sipush 300, 3) := by decide +kernel
theorem dX11_init_443 : decode cX11_init 443 = .ok (.newarray .int, 2) := by decide +kernel
theorem dX11_init_445 : decode cX11_init 445 = .ok (.putfield 204, 3) := by decide +kernel
theorem dX11_init_448 : decode cX11_init 448 = .ok (.aload_n 0, 1) := by decide +kernel
theorem dX11_init_449 : decode cX11_init 449 = .ok (.iconst 0, 1) := by decide +kernel
theorem dX11_init_450 : decode cX11_init 450 = .ok (.putfield 207, 3) := by decide +kernel
theorem dX11_init_453 : decode cX11_init 453 = .ok (.aload_n 0, 1) := by decide +kernel
theorem dX11_init_454 : decode cX11_init 454 = .ok (.sipush 320, 3) := by decide +kernel
theorem dX11_init_457 : decode cX11_init 457 = .ok (.newarray .int, 2) := by decide +kernel
theorem dX11_init_459 : decode cX11_init 459 = .ok (.putfield 210, 3) := by decide +kernel
theorem dX11_init_462 : decode cX11_init 462 = .ok (.aload_n 0, 1) := by decide +kernel
theorem dX11_init_463 : decode cX11_init 463 = .ok (.bipush 96, 2) := by decide +kernel
theorem dX11_init_465 : decode cX11_init 465 = .ok (.newarray .int, 2) := by decide +kernel
theorem dX11_init_467 : decode cX11_init 467 = .ok (.putfield 213, 3) := by decide +kernel
theorem dX11_init_470 : decode cX11_init 470 = .ok (.aload_n 0, 1) := by decide +kernel
theorem dX11_init_471 : decode cX11_init 471 = .ok (.lconst 1, 1) := by decide +kernel
theorem dX11_init_472 : decode cX11_init 472 = .ok (.putfield 216, 3) := by decide +kernel
theorem dX11_init_475 : decode cX11_init 475 = .ok (.aload_n 0, 1) := by decide +kernel
theorem dX11_init_476 : decode cX11_init 476 = .ok (.iconst 0, 1) := by decide +kernel
theorem dX11_init_477 : decode cX11_init 477 = .ok (.putfield 219, 3) := by decide +kernel
theorem dX11_init_480 : decode cX11_init 480 = .ok (.aload_n 0, 1) := by decide +kernel
theorem dX11_init_481 : decode cX11_init 481 = .ok (.iconst 0, 1) := by decide +kernel
theorem dX11_init_482 : decode cX11_init 482 = .ok (.putfield 222, 3) := by decide +kernel
theorem dX11_init_485 : decode cX11_init 485 = .ok (.aload_n 0, 1) := by decide +kernel
theorem dX11_init_486 : decode cX11_init 486 = .ok (.sipush 256, 3) := by decide +kernel
theorem dX11_init_489 : decode cX11_init 489 = .ok (.newarray .int, 2) := by decide +kernel
theorem dX11_init_491 : decode cX11_init 491 = .ok (.putfield 225, 3) := by decide +kernel
theorem dX11_init_494 : decode cX11_init 494 = .ok (.aload_n 0, 1) := by decide +kernel
theorem dX11_init_495 : decode cX11_init 495 = .ok (.sipush 600, 3) := by decide +kernel
theorem dX11_init_498 : decode cX11_init 498 = .ok (.newarray .int, 2) := by decide +kernel
theorem dX11_init_500 : decode cX11_init 500 = .ok (.putfield 228, 3) := by decide +kernel
theorem dX11_init_503 : decode cX11_init 503 = .ok (.aload_n 0, 1) := by decide +kernel
theorem dX11_init_504 : decode cX11_init 504 = .ok (.iconst 0, 1) := by decide +kernel
theorem dX11_init_505 : decode cX11_init 505 = .ok (.putfield 231, 3) := by decide +kernel
theorem dX11_init_508 : decode cX11_init 508 = .ok (.iconst 0, 1) := by decide +kernel
theorem dX11_init_509 : decode cX11_init 509 = .ok (.istore_n 1, 1) := by decide +kernel
theorem dX11_init_510 : decode cX11_init 510 = .ok (.iload_n 1, 1) := by decide +kernel
theorem dX11_init_511 : decode cX11_init 511 = .ok (.bipush 26, 2) := by decide +kernel
theorem dX11_init_513 : decode cX11_init 513 = .ok (.if_icmp .ge 17, 3) := by decide +kernel
theorem dX11_init_516 : decode cX11_init 516 = .ok (.aload_n 0, 1) := by decide +kernel
theorem dX11_init_517 : decode cX11_init 517 = .ok (.getfield 51, 3) := by decide +kernel
theorem dX11_init_520 : decode cX11_init 520 = .ok (.iload_n 1, 1) := by decide +kernel
theorem dX11_init_521 : decode cX11_init 521 = .ok (.bipush 10, 2) := by decide +kernel
theorem dX11_init_523 : decode cX11_init 523 = .ok (.iastore, 1) := by decide +kernel
theorem dX11_init_524 : decode cX11_init 524 = .ok (.iinc 1 1, 3) := by decide +kernel
theorem dX11_init_527 : decode cX11_init 527 = .ok (.goto (-17), 3) := by decide +kernel
theorem dX11_init_530 : decode cX11_init 530 = .ok (.return_, 1) := by decide +kernel
